/-! The search of the reference: relations, what is reckoned, whether all may hold -/
theorem vx_div_m1 {x : Int} (hx : vx_rI x) : vx_i x / vx_i (-1) = vx_i (-x) := by
  apply Int32.toInt_inj.mp
  rw [Int32.toInt_div, vx_i_toInt hx, vx_i_toInt (show vx_rI (-1) by decide)]
  show (x.tdiv (-1)).bmod (2 ^ 32) = (Int32.ofInt (-x)).toInt
  rw [Int32.toInt_ofInt, Int.tdiv_neg, Int.tdiv_one]
theorem vx_div_n {x : Int} (hx : vx_rI x) : vx_div x (-1) = vx_w (-x) := by
  unfold vx_div vx_w
  rw [vx_div_m1 hx]
theorem vx_rem_n {x : Int} (hx : vx_rI x) : vx_rem x (-1) = 0 := by
  unfold vx_rem
  rw [vx_div_m1 hx]
  show (Int32.ofInt x - Int32.ofInt (-x) * Int32.ofInt (-1)).toInt = 0
  rw [← Int32.ofInt_mul, ← Int32.ofInt_sub, show x - -x * -1 = 0 by omega]
  rfl
/-- a literal that is no atom holds -/
def vn_n1 (kd e : Int) (A w : Nat → Int) : Prop := (kd = 5 → vm_is e (vm_v w (A 1)) (vm_v w (A 2)) (vm_v w (A 0))) ∧ (vy_rel kd → vm_cp kd (vm_v w (A 0)) (vm_v w (A 1)))
def vn_nl (L : vy_L) (w : Nat → Int) : Prop := ∀ j, j < L.1 → vn_n1 (L.2.1 j) (L.2.2.1 j) (L.2.2.2.2 j) w
theorem vn_sat_nl {D : vm_S} {L : vy_L} {w : Nat → Int} (q : vm_sat D L w) : vn_nl L w := fun j hj => (q j hj).2.2
/-- the clause that is worked -/
def vn_lx (h : ve_H) (c : Nat) (Pd : vy_V) (L : vy_L) : Prop := vx_J h 625 42 = c ∧ c < 61 ∧ vy_rl h c Pd (0, 0) L
abbrev vn_W1 (a k : Nat) : Prop := a = 625 ∧ k = 69
section
variable {d c : Nat} {h h1 g : ve_H} {Pd : vy_V} {L : vy_L} {u : Nat → Int} {x : Int} {j : Nat}
theorem vn_lx_fr {S : Nat → Nat → Prop} (X : vn_lx h c Pd L) (f : vx_fr S h h1) (hs : ∀ a k, S a k → (a = 625 ∧ k ≠ 42) ∨ a = 654 ∨ (650 ≤ a ∧ a ≤ 652) ∨ 664 ≤ a) : vn_lx h1 c Pd L := by
  obtain ⟨x1, x2, x3, x4, x5⟩ := X
  have n : ∀ a k, a = 641 ∨ a = 643 ∨ a = 644 ∨ a = 645 ∨ a = 646 ∨ a = 660 ∨ a = 661 → ¬ S a k := fun a k q t => absurd (hs a k t) (by omega)
  refine ⟨(vx_fr_J f (fun t => absurd (hs _ _ t) (by omega))).trans x1, x2, (vx_fr_J f (n 641 c (by omega))).trans x3, x4, fun i hi => ?_⟩
  obtain ⟨y1, y2, m, y3, y4, y5, y6, y7, y8⟩ := x5 i hi
  refine ⟨(vx_fr_J f (n 660 _ (by omega))).trans y1, (vx_fr_J f (n 643 _ (by omega))).trans y2, m, y3, fun k hk => ?_, y5, fun q => ?_, fun q => ?_, fun q => ?_⟩
  · rw [vx_fr_J f (n 645 _ (by omega)), vx_fr_K f (n 646 _ (by omega))]; exact y4 k hk
  · rw [vx_fr_J f (n 661 _ (by omega)), vx_fr_J f (n 644 _ (by omega))]; exact y6 q
  · rw [vx_fr_J f (n 644 _ (by omega))]; exact y7 q
  · rw [vx_fr_J f (n 644 _ (by omega))]; exact y8 q
/-- an atom's predicate -/
def vn_qa (h : ve_H) (l m : Nat) (Pd : vy_V) (kd e : Int) : Prop := (kd = 14 ∨ kd = 15) → vx_J h 661 l = (m : Nat) ∧ ∃ p : Nat, p < Pd.1 ∧ e = p ∧ Pd.2.2 p = m ∧ vx_J h 644 l = p
/-- the parts of a literal -/
theorem vn_lq (X : vn_lx h c Pd L) (hj : j < L.1) : 6 * c + j < 366 ∧ vx_J h 643 (6 * c + j) = vy_rk (L.2.1 j) ∧ ∃ m, vn_lt h (6 * c + j) m (L.2.2.2.2 j) ∧ vn_qa h (6 * c + j) m Pd (L.2.1 j) (L.2.2.1 j) ∧ (L.2.1 j = 5 → m = 3 ∧ vx_J h 644 (6 * c + j) = L.2.2.1 j) ∧ (vy_rel (L.2.1 j) → m = 2 ∧ vx_J h 644 (6 * c + j) = vy_sr (L.2.1 j)) := by
  obtain ⟨x1, x2, x3, x4, x5⟩ := X
  obtain ⟨y1, y2, m, y3, y4, y5, y6, y7, y8⟩ := x5 j hj
  refine ⟨by omega, y2, m, ⟨by omega, y3, y4, y5⟩, fun q => ?_, y7, y8⟩
  obtain ⟨z1, z2, z3, z4⟩ := y6 q
  obtain ⟨p, p1, p2, p3⟩ := z4 rfl
  refine ⟨z2, p, p1, p2, p3, ?_⟩
  rw [z3, p2, if_neg (by omega)]
theorem vc_72 (hT : vx_T 625 672 h) (S : vn_S h u) (X : vn_lx h c Pd L) (hj : j < L.1) (hk : vy_rel (L.2.1 j)) (na : ∀ k, k < 4 → L.2.2.2.2 j k ≠ 288230376151711744) (t0 : vn_th h (L.2.2.2.2 j 0)) (t1 : vn_th h (L.2.2.2.2 j 1)) (hx : x = ((6 * c + j : Nat) : Int)) : vx_CI (d + 2) 72 [.ref 625, .int (vx_i x)] h (fun r h1 => h1 = h ∧ ((r = 1 ∧ vm_cp (L.2.1 j) (vm_v u (L.2.2.2.2 j 0)) (vm_v u (L.2.2.2.2 j 1))) ∨ (r = 0 ∧ ¬ vm_cp (L.2.1 j) (vm_v u (L.2.2.2.2 j 0)) (vm_v u (L.2.2.2.2 j 1))))) := by
  obtain ⟨hl, _, m, lt, _, _, q⟩ := vn_lq X hj
  obtain ⟨m2, e44⟩ := q hk
  subst m2
  refine vg_72 hT (vx_CL_mono (vc_69 hT hl (k := 0) (by omega) hx rfl S (lt.2.2.1 0 (by omega)) (na 0 (by omega)) t0) ?_)
  rintro r1 h1 _ ⟨rfl, e1⟩ _
  refine vx_CL_mono (vc_69 hT hl (k := 1) (by omega) hx rfl S (lt.2.2.1 1 (by omega)) (na 1 (by omega)) t1) ?_
  rintro r2 h2 _ ⟨rfl, e2⟩ _
  refine vx_CI_mono (vc_67 (d := d) hT e1 e2) ?_
  rintro r3 h3 _ ⟨rfl, e3⟩ _
  have eq := vy_vr_eq e1 e2
  rw [show x.toNat = 6 * c + j by omega, e44]
  generalize vm_v u (L.2.2.2.2 j 0) = a at *
  generalize vm_v u (L.2.2.2.2 j 1) = b at *
  unfold vm_cp vy_sr
  refine ⟨by omega, ?_⟩
  by_cases k13 : L.2.1 j ≤ 13
  · rw [if_pos k13]
    refine ⟨fun q => by omega, fun q => by omega, fun q => by omega, fun q => ⟨fun q2 => ⟨rfl, Or.inr ⟨rfl, fun t => t.2.1 (by omega) (eq.mp q2)⟩⟩, fun q2 => ⟨rfl, Or.inl ⟨rfl, by omega, fun _ t => q2 (eq.mpr t), by omega, by omega, by omega, by omega⟩⟩⟩, fun q => ⟨fun q2 => ⟨rfl, Or.inr ⟨rfl, fun t => by have := t.2.2.2.1 (by omega); omega⟩⟩, fun q2 => ⟨rfl, Or.inl ⟨rfl, by omega, by omega, by omega, fun _ => by omega, by omega, by omega⟩⟩⟩, fun q => ⟨fun q2 => ⟨rfl, Or.inr ⟨rfl, fun t => by have := t.2.2.2.2.2 (by omega); omega⟩⟩, fun q2 => ⟨rfl, Or.inl ⟨rfl, by omega, by omega, by omega, by omega, by omega, fun _ => by omega⟩⟩⟩⟩
  · rw [if_neg k13]
    refine ⟨fun q => ⟨fun q2 => ⟨rfl, Or.inr ⟨rfl, fun t => by have := t.2.2.1 (by omega); omega⟩⟩, fun q2 => ⟨rfl, Or.inl ⟨rfl, by omega, by omega, fun _ => by omega, by omega, by omega, by omega⟩⟩⟩, fun q => ⟨fun q2 => ⟨rfl, Or.inr ⟨rfl, fun t => q2 (eq.mpr (t.1 (by omega)))⟩⟩, fun q2 => ⟨rfl, Or.inl ⟨rfl, fun _ => eq.mp q2, by omega, by omega, by omega, by omega, by omega⟩⟩⟩, fun q => ⟨fun q2 => ⟨rfl, Or.inr ⟨rfl, fun t => by have := t.2.2.2.2.1 (by omega); omega⟩⟩, fun q2 => ⟨rfl, Or.inl ⟨rfl, by omega, by omega, by omega, by omega, fun _ => by omega, by omega⟩⟩⟩, fun q => by omega, fun q => by omega, fun q => by omega⟩
/-- numbers that can be reckoned -/
def vn_ok (e a b : Int) : Prop := a < 72057594037927936 ∧ b < 72057594037927936 ∧ ¬ (b = 0 ∧ (e = 47 ∨ e = 37))
theorem vc_73 (hT : vx_T 625 672 h) (S : vn_S h u) (X : vn_lx h c Pd L) (hj : j < L.1) (hk : L.2.1 j = 5) (ho : vy_opn (L.2.2.1 j)) (na : ∀ k, k < 4 → L.2.2.2.2 j k ≠ 288230376151711744) (t1 : vn_th h (L.2.2.2.2 j 1)) (t2 : vn_th h (L.2.2.2.2 j 2)) (hx : x = ((6 * c + j : Nat) : Int)) : vx_CI (d + 1) 73 [.ref 625, .int (vx_i x)] h (fun r h1 => vx_fr vn_W1 h h1 ∧ ((r = 1 ∧ vn_ok (L.2.2.1 j) (vm_v u (L.2.2.2.2 j 1)) (vm_v u (L.2.2.2.2 j 2)) ∧ vx_K h1 625 69 = vm_rk (L.2.2.1 j) (vm_v u (L.2.2.2.2 j 1)) (vm_v u (L.2.2.2.2 j 2))) ∨ (r = 0 ∧ ¬ vn_ok (L.2.2.1 j) (vm_v u (L.2.2.2.2 j 1)) (vm_v u (L.2.2.2.2 j 2))))) := by
  obtain ⟨hl, _, m, lt, _, q, _⟩ := vn_lq X hj
  obtain ⟨m3, e44⟩ := q hk
  subst m3
  refine vh_73 hT (vx_CL_mono (vc_69 hT hl (k := 1) (by omega) hx rfl S (lt.2.2.1 1 (by omega)) (na 1 (by omega)) t1) ?_)
  rintro r1 h1 _ ⟨rfl, e1⟩ _
  refine vx_CL_mono (vc_69 hT hl (k := 2) (by omega) hx rfl S (lt.2.2.1 2 (by omega)) (na 2 (by omega)) t2) ?_
  rintro r2 h2 _ ⟨rfl, e2⟩ _
  have n1 := vy_vr_n e1
  have n2 := vy_vr_n e2
  generalize vm_v u (L.2.2.2.2 j 1) = a at *
  generalize vm_v u (L.2.2.2.2 j 2) = b at *
  refine vx_CI_mono (vc_66 hT (vy_vr_l e1).1) ?_
  rintro r3 h3 _ ⟨rfl, c3⟩ _
  refine ⟨fun q => ⟨vx_fr_refl, Or.inr ⟨rfl, fun t => by have := t.1; omega⟩⟩, fun q => vx_CI_mono (vc_66 hT (vy_vr_l e2).1) ?_⟩
  rintro r5 h5 _ ⟨rfl, c5⟩ _
  refine ⟨fun q5 => ?_, fun q5 => ⟨vx_fr_refl, Or.inr ⟨rfl, fun t => by have := t.2.1; omega⟩⟩⟩
  have ea : a = r1 ∧ vx_rI r1 := n1.2 (by omega)
  have eb : b = r2 ∧ vx_rI r2 := n2.2 (by omega)
  rw [show x.toNat = 6 * c + j by omega, e44, ea.1, eb.1]
  have l1 := (vy_vr_l e1).1
  -- a number is put
  have put : ∀ (z : Int) (g : ve_H), vx_rI z → ¬ (r2 = 0 ∧ (L.2.2.1 j = 47 ∨ L.2.2.1 j = 37)) → z = vm_rk (L.2.2.1 j) r1 r2 → g = vx_sK h5 625 69 z → vx_fr vn_W1 h5 g ∧ (((1 : Int) = 1 ∧ vn_ok (L.2.2.1 j) r1 r2 ∧ vx_K g 625 69 = vm_rk (L.2.2.1 j) r1 r2) ∨ ((1 : Int) = 0 ∧ ¬ vn_ok (L.2.2.1 j) r1 r2)) := fun z g hz nz ez eg => ⟨vx_fr_sK vx_fr_refl eg ⟨rfl, rfl⟩, Or.inl ⟨rfl, ⟨by omega, by omega, nz⟩, by rw [eg, vx_K_eq (vx_IL hz)]; exact ez⟩⟩
  refine ⟨by omega, fun q => ?_, fun q => ?_, fun q => ?_, fun q => ⟨eb.2, fun q2 => ⟨fun q3 => ⟨by omega, fun q4 => ⟨⟨eb.2, q2⟩, ?_⟩, fun q4 => ⟨⟨eb.2, q2⟩, ?_⟩⟩, fun q3 => ⟨by omega, fun q4 => ?_, fun q4 => ?_⟩⟩, fun q2 => ⟨vx_fr_refl, Or.inr ⟨rfl, fun t => t.2.2 ⟨q2, by omega⟩⟩⟩⟩⟩
  · intro h10 e10 _
    exact put _ h10 (vx_w_r _) (by omega) (by unfold vm_rk; rw [if_neg (by omega), if_neg (by omega), if_pos q]) e10
  · intro h12 e12 _
    exact put _ h12 (vx_w_r _) (by omega) (by unfold vm_rk; rw [if_pos q]) e12
  · intro h14 e14 _
    exact put _ h14 (vx_w_r _) (by omega) (by unfold vm_rk; rw [if_neg (by omega), if_pos q]) e14
  · intro h21 e21 _
    exact put (vx_rem r1 r2) h21 (vx_rI_toInt _) (by omega) (by unfold vm_rk; rw [if_neg (by omega), if_neg (by omega), if_neg (by omega), if_neg q4]) e21
  · intro h23 e23 _
    exact put (vx_div r1 r2) h23 (vx_rI_toInt _) (by omega) (by unfold vm_rk; rw [if_neg (by omega), if_neg (by omega), if_neg (by omega), if_pos q4]) e23
  · intro h26 e26 _
    exact put _ h26 (by decide) (by omega) (by unfold vm_rk; rw [if_neg (by omega), if_neg (by omega), if_neg (by omega), if_neg q4, q3, vx_rem_n ea.2]) e26
  · intro h28 e28 _
    exact put _ h28 (vx_w_r _) (by omega) (by unfold vm_rk; rw [if_neg (by omega), if_neg (by omega), if_neg (by omega), if_pos q4, q3, vx_div_n ea.2]) e28
/-- what is there of a literal isn't against it -/
def vn_m (h : ve_H) (u : Nat → Int) (kd e : Int) (A : Nat → Int) : Prop := (vy_rel kd → vn_th h (A 0) → vn_th h (A 1) → vm_cp kd (vm_v u (A 0)) (vm_v u (A 1))) ∧ (kd = 5 → vn_th h (A 1) → vn_th h (A 2) → vn_ok e (vm_v u (A 1)) (vm_v u (A 2)) ∧ (vn_th h (A 0) → vm_v u (A 0) = vm_rk e (vm_v u (A 1)) (vm_v u (A 2))))
theorem vn_m_fr {S : Nat → Nat → Prop} {kd e : Int} {A : Nat → Int} (f : vx_fr S h g) (hs : ∀ k, ¬ S 664 k) (q : vn_m h u kd e A) : vn_m g u kd e A :=
  ⟨fun a b c => q.1 a ((vn_th_fr f hs).mp b) ((vn_th_fr f hs).mp c), fun a b c => ⟨(q.2 a ((vn_th_fr f hs).mp b) ((vn_th_fr f hs).mp c)).1, fun t => (q.2 a ((vn_th_fr f hs).mp b) ((vn_th_fr f hs).mp c)).2 ((vn_th_fr f hs).mp t)⟩⟩
/-- a valuation with which a literal holds isn't against it -/
theorem vn_m_n1 {kd e : Int} {A w : Nat → Int} (ag : vn_ag h u w) (q : vn_n1 kd e A w) : vn_m h u kd e A := by
  refine ⟨fun a t0 t1 => ?_, fun a t1 t2 => ?_⟩
  · rw [vn_v_ag ag t0, vn_v_ag ag t1]; exact q.2 a
  · rw [vn_v_ag ag t1, vn_v_ag ag t2]
    have t := q.1 a
    exact ⟨⟨t.1, t.2.1, t.2.2.1⟩, fun t0 => by rw [vn_v_ag ag t0]; exact t.2.2.2⟩
theorem vn_rk (kd : Int) : (vy_rk kd = 2 → kd ≠ 14 ∧ kd ≠ 15 ∧ kd ≠ 5) ∧ (vy_rk kd = 3 → kd = 5) ∧ (vy_rk kd = 0 ↔ kd = 14) ∧ (vy_rk kd = 1 ↔ kd = 15) := by
  unfold vy_rk
  split
  · omega
  split
  · omega
  split
  · omega
  · omega
theorem vc_74_8 {O1 : Int} {n : Nat} (W : vz_wf O1 n L) (wo : ∀ j, j < L.1 → L.2.1 j = 5 → vy_opn (L.2.2.1 j)) (S0 : vn_S h u) (X0 : vn_lx h c Pd L) :
    ∀ (m j : Nat) (g : ve_H) (z : Int), m = L.1 - j → j ≤ L.1 → z = ((6 * c + j : Nat) : Int) → vx_T 625 672 g → vx_fr vn_W1 h g → (∀ j', j' < j → vn_m h u (L.2.1 j') (L.2.2.1 j') (L.2.2.2.2 j')) → vx_W (d + 2 + 1) 74 8 [some (.ref 625), some (.int (vx_i z))] [] g (vx_RI (fun r h1 => vx_fr vn_W1 h h1 ∧ ((r = 1 ∧ ∀ j', j' < L.1 → vn_m h u (L.2.1 j') (L.2.2.1 j') (L.2.2.2.2 j')) ∨ (r = 0 ∧ ∃ j', j' < L.1 ∧ ¬ vn_m h u (L.2.1 j') (L.2.2.1 j') (L.2.2.2.2 j'))))) := by
  intro m
  induction m with
  | zero =>
    intro j g z hm hj hz hT F al
    have X := vn_lx_fr X0 F (fun a k q => by omega)
    have c61 := X.2.1
    have L6 := X.2.2.2.1
    refine vg_74_8 hT ?_
    rw [X.1, show ((c : Nat) : Int).toNat = c by omega, X.2.2.1]
    exact ⟨by omega, by omega, by omega, fun _ => ⟨F, Or.inl ⟨rfl, fun j' hj' => al j' (by omega)⟩⟩, fun q => absurd q (by omega)⟩
  | succ m ih =>
    intro j g z hm hj hz hT F al
    have hj' : j < L.1 := by omega
    have X := vn_lx_fr X0 F (fun a k q => by omega)
    have Sg := vn_S_fr S0 F (fun k => ⟨by omega, by omega⟩)
    have thg : ∀ t, vn_th g t ↔ vn_th h t := fun t => vn_th_fr F (fun k => by omega)
    have c61 := X.2.1
    have L6 := X.2.2.2.1
    obtain ⟨hl, k43, mm, lt, _, q5, qr⟩ := vn_lq X hj'
    have wj := W j hj'
    have rk := vn_rk (L.2.1 j)
    have nx : ∀ g1, vx_T 625 672 g1 → vx_fr vn_W1 h g1 → vn_m h u (L.2.1 j) (L.2.2.1 j) (L.2.2.2.2 j) → vx_W (d + 2 + 1) 74 8 [some (.ref 625), some (.int (vx_i (z + 1)))] [] g1 (vx_RI (fun r h1 => vx_fr vn_W1 h h1 ∧ ((r = 1 ∧ ∀ j', j' < L.1 → vn_m h u (L.2.1 j') (L.2.2.1 j') (L.2.2.2.2 j')) ∨ (r = 0 ∧ ∃ j', j' < L.1 ∧ ¬ vn_m h u (L.2.1 j') (L.2.2.1 j') (L.2.2.2.2 j'))))) := fun g1 hT1 F1 q => ih (j + 1) g1 (z + 1) (by omega) (by omega) (by omega) hT1 F1 (fun j' h' => by
      by_cases e : j' = j
      · rw [e]; exact q
      · exact al j' (by omega))
    -- behind the relation
    have b67 : (vy_rel (L.2.1 j) → vn_th h (L.2.2.2.2 j 0) → vn_th h (L.2.2.2.2 j 1) → vm_cp (L.2.1 j) (vm_v u (L.2.2.2.2 j 0)) (vm_v u (L.2.2.2.2 j 1))) → vx_W (d + 2 + 1) 74 67 [some (.ref 625), some (.int (vx_i z))] [] g (vx_RI (fun r h1 => vx_fr vn_W1 h h1 ∧ ((r = 1 ∧ ∀ j', j' < L.1 → vn_m h u (L.2.1 j') (L.2.2.1 j') (L.2.2.2.2 j')) ∨ (r = 0 ∧ ∃ j', j' < L.1 ∧ ¬ vn_m h u (L.2.1 j') (L.2.2.1 j') (L.2.2.2.2 j'))))) := by
      intro rel
      refine vg_74_67 hT ?_
      rw [show z.toNat = 6 * c + j by omega, k43]
      refine ⟨by omega, fun q => nx g hT F ⟨rel, fun k5 => ?_⟩, fun q => ?_⟩
      · exfalso
        apply q
        rw [k5]; rfl
      · have k5 := rk.2.1 q
        have na := wj.2.2.2.2 (Or.inl k5)
        have m3 := (q5 k5).1
        subst m3
        have nr : ¬ vy_rel (L.2.1 j) := by rw [k5]; decide
        refine vx_CI_mono (vc_68 (d := d + 2) hT hl (k := 1) (by omega) hz rfl (lt.2.2.1 1 (by omega)) (na 1 (by omega))) ?_
        rintro r3 h3 _ ⟨rfl, c3⟩ _
        refine ⟨fun q3 => nx _ hT F ⟨rel, fun _ t1 => ?_⟩, fun q3 => vx_CI_mono (vc_68 (d := d + 2) hT hl (k := 2) (by omega) hz rfl (lt.2.2.1 2 (by omega)) (na 2 (by omega))) ?_⟩
        · rcases c3 with ⟨t, _⟩ | ⟨_, t⟩
          · omega
          · exact absurd ((thg _).mpr t1) t
        rintro r5 h5 _ ⟨rfl, c5⟩ _
        refine ⟨fun q5' => nx _ hT F ⟨rel, fun _ _ t2 => ?_⟩, fun q5' => ?_⟩
        · rcases c5 with ⟨t, _⟩ | ⟨_, t⟩
          · omega
          · exact absurd ((thg _).mpr t2) t
        have t1 : vn_th h5 (L.2.2.2.2 j 1) := by
          rcases c3 with ⟨_, t⟩ | ⟨t, _⟩
          · exact t
          · exact absurd t q3
        have t2 : vn_th h5 (L.2.2.2.2 j 2) := by
          rcases c5 with ⟨_, t⟩ | ⟨t, _⟩
          · exact t
          · exact absurd t q5'
        refine vx_CI_mono (vc_73 (d := d + 1) hT Sg X hj' k5 (wo j hj' k5) na t1 t2 hz) ?_
        rintro r7 h7 _ ⟨F7, c7⟩ hT7
        have FF := vx_fr_trans F F7
        have X7 := vn_lx_fr X0 FF (fun a k q => by omega)
        have S7 := vn_S_fr S0 FF (fun k => ⟨by omega, by omega⟩)
        obtain ⟨_, _, mm7, lt7, _, q57, _⟩ := vn_lq X7 hj'
        have m37 := (q57 k5).1
        subst m37
        refine ⟨fun q7 => ⟨FF, Or.inr ⟨rfl, j, hj', fun t => ?_⟩⟩, fun q7 => ?_⟩
        · rcases c7 with ⟨t', _⟩ | ⟨_, t'⟩
          · omega
          · exact t' (t.2 k5 ((thg _).mp t1) ((thg _).mp t2)).1
        obtain ⟨ok7, e69⟩ : vn_ok (L.2.2.1 j) (vm_v u (L.2.2.2.2 j 1)) (vm_v u (L.2.2.2.2 j 2)) ∧ vx_K h7 625 69 = vm_rk (L.2.2.1 j) (vm_v u (L.2.2.2.2 j 1)) (vm_v u (L.2.2.2.2 j 2)) := by
          rcases c7 with ⟨_, t⟩ | ⟨t, _⟩
          · exact t
          · exact absurd t q7
        refine vx_CI_mono (vc_68 (d := d + 2) hT7 hl (k := 0) (by omega) hz rfl (lt7.2.2.1 0 (by omega)) (na 0 (by omega))) ?_
        rintro r9 h9 _ ⟨rfl, c9⟩ hT9
        have th9 : ∀ t, vn_th h9 t ↔ vn_th h t := fun t => vn_th_fr FF (fun k => by omega)
        refine ⟨fun q9 => nx _ hT9 FF ⟨rel, fun _ _ _ => ⟨ok7, fun t0 => ?_⟩⟩, fun q9 => ?_⟩
        · rcases c9 with ⟨t, _⟩ | ⟨_, t⟩
          · omega
          · exact absurd ((th9 _).mpr t0) t
        have t0 : vn_th h9 (L.2.2.2.2 j 0) := by
          rcases c9 with ⟨_, t⟩ | ⟨t, _⟩
          · exact t
          · exact absurd t q9
        refine vx_CL_mono (vc_69 (d := d + 2) hT9 hl (k := 0) (by omega) hz rfl S7 (lt7.2.2.1 0 (by omega)) (na 0 (by omega)) t0) ?_
        rintro r11 h11 _ ⟨rfl, e11⟩ hT11
        have nn : vy_vr (vm_rk (L.2.2.1 j) (vm_v u (L.2.2.2.2 j 1)) (vm_v u (L.2.2.2.2 j 2))) (vx_K h11 625 69) := by
          rw [e69]
          exact Or.inl ⟨rfl, vm_rk_r.1, vm_rk_r.2⟩
        have eqv := vy_vr_eq e11 nn
        refine ⟨fun q11 => nx _ hT11 FF ⟨rel, fun _ _ _ => ⟨ok7, fun _ => eqv.mp q11⟩⟩, fun q11 => ⟨FF, Or.inr ⟨rfl, j, hj', fun t => q11 (eqv.mpr ((t.2 k5 ((thg _).mp t1) ((thg _).mp t2)).2 ((th9 _).mp t0)))⟩⟩⟩
    refine vg_74_8 hT ?_
    rw [X.1, show ((c : Nat) : Int).toNat = c by omega, X.2.2.1, show z.toNat = 6 * c + j by omega, k43]
    refine ⟨by omega, by omega, by omega, fun q => absurd q (by omega), fun _ => ⟨by omega, fun q => b67 (fun r => ?_), fun q => ?_⟩⟩
    · exfalso
      apply q
      unfold vy_rk
      rw [if_neg (by omega), if_neg (by omega), if_neg (by omega)]
    · have nk := rk.1 q
      have hr : vy_rel (L.2.1 j) := by
        rcases wj.1 with t | t | t | t
        · exact absurd t nk.1
        · exact absurd t nk.2.1
        · exact absurd t nk.2.2
        · exact t
      have na := wj.2.2.2.2 (Or.inr (Or.inl hr))
      have m2 := (qr hr).1
      subst m2
      refine vx_CI_mono (vc_68 (d := d + 2) hT hl (k := 0) (by omega) hz rfl (lt.2.2.1 0 (by omega)) (na 0 (by omega))) ?_
      rintro r7 h7 _ ⟨rfl, c7⟩ _
      refine ⟨fun q7 => b67 (fun _ t0 _ => ?_), fun q7 => vx_CI_mono (vc_68 (d := d + 2) hT hl (k := 1) (by omega) hz rfl (lt.2.2.1 1 (by omega)) (na 1 (by omega))) ?_⟩
      · rcases c7 with ⟨t, _⟩ | ⟨_, t⟩
        · omega
        · exact absurd ((thg _).mpr t0) t
      rintro r9 h9 _ ⟨rfl, c9⟩ _
      refine ⟨fun q9 => b67 (fun _ _ t1 => ?_), fun q9 => ?_⟩
      · rcases c9 with ⟨t, _⟩ | ⟨_, t⟩
        · omega
        · exact absurd ((thg _).mpr t1) t
      have t0 : vn_th h9 (L.2.2.2.2 j 0) := by
        rcases c7 with ⟨_, t⟩ | ⟨t, _⟩
        · exact t
        · exact absurd t q7
      have t1 : vn_th h9 (L.2.2.2.2 j 1) := by
        rcases c9 with ⟨_, t⟩ | ⟨t, _⟩
        · exact t
        · exact absurd t q9
      refine vx_CI_mono (vc_72 (d := d) hT Sg X hj' hr na t0 t1 hz) ?_
      rintro r11 h11 _ ⟨rfl, c11⟩ _
      refine ⟨fun q11 => b67 (fun _ _ _ => ?_), fun q11 => ⟨F, Or.inr ⟨rfl, j, hj', fun t => ?_⟩⟩⟩
      · rcases c11 with ⟨_, t⟩ | ⟨t, _⟩
        · exact t
        · exact absurd t q11
      · rcases c11 with ⟨t', _⟩ | ⟨_, t'⟩
        · omega
        · exact t' (t.1 hr ((thg _).mp t0) ((thg _).mp t1))
theorem vc_74 {O1 : Int} {n : Nat} (hT : vx_T 625 672 h) (W : vz_wf O1 n L) (wo : ∀ j, j < L.1 → L.2.1 j = 5 → vy_opn (L.2.2.1 j)) (S : vn_S h u) (X : vn_lx h c Pd L) : vx_CI (d + 3) 74 [.ref 625] h (fun r h1 => vx_fr vn_W1 h h1 ∧ ((r = 1 ∧ ∀ j', j' < L.1 → vn_m h u (L.2.1 j') (L.2.2.1 j') (L.2.2.2.2 j')) ∨ (r = 0 ∧ ∀ w, vn_ag h u w → ¬ vn_nl L w))) := by
  refine vg_74 hT ?_
  have c61 := X.2.1
  refine vx_mono (vc_74_8 (d := d) W wo S X L.1 0 h _ (by omega) (by omega) (by rw [X.1]; omega) hT vx_fr_refl (fun j' hj' => absurd hj' (by omega))) ?_
  rintro ot h1 ⟨r, e1, e2, F, q⟩
  refine ⟨r, e1, e2, F, ?_⟩
  rcases q with q | ⟨q1, j, hj, q2⟩
  · exact Or.inl q
  · exact Or.inr ⟨q1, fun w hw nl => q2 (vn_m_n1 hw (nl j hj))⟩
end
