/-! The search of the reference: at most three atoms; a clause's ways -/
def vz_na (L : vy_L) (m : Nat) : Nat := vr_n (fun j => decide (L.2.1 j = 14)) m
theorem vr_n_congr {p q : Nat → Bool} : ∀ n, (∀ i, i < n → p i = q i) → vr_n p n = vr_n q n
  | 0, _ => rfl
  | n + 1, h => by
    show vr_n p n + (bif p n then 1 else 0) = vr_n q n + (bif q n then 1 else 0)
    rw [vr_n_congr n (fun i hi => h i (by omega)), h n (by omega)]
section
variable {i : Nat} {ts : vy_T} {V Pd : vy_V} {O : vy_O} {F : vy_F} {L : vy_L} {op : Bool} {at_ : Nat} {S S' : vu_S}
theorem vz_na_la {kd e p : Int} {A : Nat → Int} : vz_na (vy_la L kd e p A) (L.1 + 1) = vz_na L L.1 + (if kd = 14 then 1 else 0) := by
  unfold vz_na
  show vr_n (fun j => decide ((vy_la L kd e p A).2.1 j = 14)) L.1 + (bif decide ((vy_la L kd e p A).2.1 L.1 = 14) then 1 else 0) = _
  have e1 : (vy_la L kd e p A).2.1 L.1 = kd := by show (if L.1 = L.1 then kd else L.2.1 L.1) = kd; rw [if_pos rfl]
  rw [e1, vr_n_congr (q := fun j => decide (L.2.1 j = 14)) L.1 (fun j hj => by
    show decide ((if j = L.1 then kd else L.2.1 j) = 14) = _
    rw [if_neg (by omega)])]
  congr 1
  by_cases q : kd = 14
  · rw [if_pos q, decide_eq_true q]; rfl
  · rw [if_neg q, decide_eq_false q]; rfl
theorem vy_re_n14 {q : Nat × vy_V × Int × Int × (Nat → Int)} (e : vy_re ts i V = .inr q) : q.2.2.1 ≠ 14 := by
  unfold vy_re at e
  split at e
  · exact absurd e (by simp)
  · split at e
    · split at e
      · exact absurd e (by simp)
      · split at e
        · split at e
          · exact absurd e (by simp)
          · injection e with e; rw [← e]; show (5 : Int) ≠ 14; decide
        · exact absurd e (by simp)
    · rename_i hr
      split at e
      · rename_i h2
        split at e
        · exact absurd e (by simp)
        · injection e with e; rw [← e]; intro t
          have t' : vy_k ts _ = 14 := t
          omega
      · exact absurd e (by simp)
theorem vy_li_na {q : Nat × vy_V × vy_V × vy_F × vy_L × Nat} (h : vz_na L L.1 = at_ ∧ at_ ≤ 3) (e : vy_li ts op i V O Pd F L at_ = .inr q) : vz_na q.2.2.2.2.1 q.2.2.2.2.1.1 = q.2.2.2.2.2 ∧ q.2.2.2.2.2 ≤ 3 := by
  unfold vy_li at e
  split at e
  · split at e
    · exact absurd e (by simp)
    · injection e with e; rw [← e]
      show vz_na (vy_la L 15 _ _ _) (L.1 + 1) = at_ ∧ at_ ≤ 3
      rw [vz_na_la, if_neg (by decide)]
      omega
  · split at e
    · split at e
      · exact absurd e (by simp)
      · split at e
        · exact absurd e (by simp)
        · injection e with e; rw [← e]
          show vz_na (vy_la L 14 _ _ _) (L.1 + 1) = at_ + 1 ∧ at_ + 1 ≤ 3
          rw [vz_na_la, if_pos rfl]
          omega
    · cases e2 : vy_re ts i V with
      | inl p => rw [e2] at e; exact absurd e (by simp)
      | inr r =>
        rw [e2] at e
        injection e with e; rw [← e]
        show vz_na (vy_la L r.2.2.1 _ _ _) (L.1 + 1) = at_ ∧ at_ ≤ 3
        rw [vz_na_la, if_neg (vy_re_n14 e2)]
        omega
theorem vy_bo_na : ∀ (m i : Nat) (V Pd : vy_V) (F : vy_F) (L : vy_L) (at_ : Nat) {q : Nat × vy_V × vy_V × vy_F × vy_L × Nat}, vz_na L L.1 = at_ ∧ at_ ≤ 3 → vy_bo ts op O m i V Pd F L at_ = .inr q → vz_na q.2.2.2.2.1 q.2.2.2.2.1.1 ≤ 3
  | 0, i, V, Pd, F, L, at_, q, _, e => by exact absurd e (by unfold vy_bo; simp)
  | m + 1, i, V, Pd, F, L, at_, q, h, e => by
    unfold vy_bo at e
    cases e2 : vy_li ts op i V O Pd F L at_ with
    | inl p => rw [e2] at e; exact absurd e (by simp)
    | inr r =>
      rw [e2] at e
      have t := vy_li_na h e2
      have e' : (if vy_k ts r.1 = 44 then vy_bo ts op O m (r.1 + 1) r.2.1 r.2.2.1 r.2.2.2.1 r.2.2.2.2.1 r.2.2.2.2.2 else Sum.inr r) = Sum.inr q := e
      by_cases k : vy_k ts r.1 = 44
      · rw [if_pos k] at e'
        exact vy_bo_na m _ _ _ _ _ _ t e'
      · rw [if_neg k] at e'
        injection e' with e'
        rw [← e', t.1]; exact t.2
theorem vu_cs_na {n j : Nat} {Pd' : vy_V} {F' : vy_F} {R : vu_R} (e : vu_cs ts n i Pd F = .inr (j, Pd', F', .inr R)) : vz_na R.2.2.2.2 R.2.2.2.2.1 ≤ 3 := by
  unfold vu_cs at e
  split at e
  · exact absurd e (by simp)
  · split at e
    · split at e
      · exact absurd e (by simp)
      · simp only [Sum.inr.injEq, Prod.mk.injEq, reduceCtorEq, and_false] at e
    · split at e
      · exact absurd e (by simp)
      · split at e
        · exact absurd e (by simp)
        · split at e
          · exact absurd e (by simp)
          · rename_i u hu
            split at e
            · exact absurd e (by simp)
            · simp only [Sum.inr.injEq, Prod.mk.injEq] at e
              obtain ⟨_, _, _, e⟩ := e
              have t := vy_bo_na 6 _ _ _ _ _ _ (show vz_na vu_L0 vu_L0.1 = 0 ∧ 0 ≤ 3 from ⟨rfl, by decide⟩) hu
              rw [← e]; exact t
/-- at most three atoms in a rule -/
def vu_w3 (S : vu_S) : Prop := ∀ r, r < S.2.2.1 → vz_na (S.2.2.2.1 r).2.2.2.2 (S.2.2.2.1 r).2.2.2.2.1 ≤ 3
theorem vu_pl_3 : ∀ (m i : Nat) (S : vu_S), vu_w3 S → vu_pl ts m i S = .inr S' → vu_w3 S'
  | 0, i, S, w, e => by unfold vu_pl at e; injection e with e; rw [← e]; exact w
  | m + 1, i, S, w, e => by
    rw [vu_pl_s] at e
    split at e
    · injection e with e; rw [← e]; exact w
    · split at e
      · exact absurd e (by simp)
      · rename_i q hq
        refine vu_pl_3 m q.1 (vu_nx S q) ?_ e
        unfold vu_nx
        cases hk : q.2.2.2 with
        | inl f => exact w
        | inr R =>
          intro r hr
          have hr' : r < S.2.2.1 + 1 := hr
          show vz_na (if r = S.2.2.1 then R else S.2.2.2.1 r).2.2.2.2 (if r = S.2.2.1 then R else S.2.2.2.1 r).2.2.2.2.1 ≤ 3
          by_cases e2 : r = S.2.2.1
          · rw [if_pos e2]
            refine vu_cs_na (ts := ts) (n := S.2.2.1) (i := i) (Pd := S.1) (F := S.2.1) (j := q.1) (Pd' := q.2.1) (F' := q.2.2.1) ?_
            rw [hq, ← hk]
          · rw [if_neg e2]; exact w r (by omega)
theorem vu_prog_3 (e : vu_prog ts = .inr S) : vu_w3 S := by
  unfold vu_prog at e
  split at e
  · exact absurd e (by simp)
  · rename_i S1 h1
    split at e
    · exact absurd e (by simp)
    · split at e
      · exact absurd e (by simp)
      · injection e with e
        rw [← e]
        exact vu_pl_3 600 0 vu_S0 (fun r hr => absurd (show r < 0 from hr) (by omega)) h1
theorem vu_qc_3 {f : vy_F × Nat × vy_L} (e : vu_qc ts Pd = .inr f) : vz_na f.2.2 f.2.2.1 ≤ 3 := by
  unfold vu_qc at e
  split at e
  · exact absurd e (by simp)
  · rename_i u hu
    have t := vy_bo_na 6 _ _ _ _ _ _ (show vz_na vu_L0 vu_L0.1 = 0 ∧ 0 ≤ 3 from ⟨rfl, by decide⟩) hu
    split at e
    · exact absurd e (by simp)
    · split at e
      · exact absurd e (by simp)
      · split at e
        · exact absurd e (by simp)
        · injection e with e
          rw [← e]; exact t
end
abbrev vn_W6 (a k : Nat) : Prop := vn_W5 a k ∨ (a = 625 ∧ (k = 42 ∨ k = 70)) ∨ a = 666
abbrev vn_Wz (a k : Nat) : Prop := vn_Wy a k ∨ (a = 625 ∧ (k = 42 ∨ k = 70)) ∨ a = 666
/-- how a clause's ways end -/
def vn_wP (L : vy_L) (n lim : Nat) (rr : Nat → Nat → Int) (X Y : List (Nat → Int) → ve_H → Prop) (Z : List (Nat → Int) → (Nat → Int) → Prop) (h h1 : ve_H) : Prop :=
  vx_fr vn_Wz h h1 ∧ ((vx_J h1 625 68 = 0 ∧ ∃ l', (∀ w, w ∈ l' → vm_sat (vn_D lim rr) L w ∧ ∀ v, v < n → vz_va (w v)) ∧ (∀ w, vm_sat (vn_D lim rr) L w → Z l' w) ∧ ((∀ j, j < L.1 → L.2.1 j = 14 → ∀ k, k < 4 → L.2.2.2.2 j k ≠ 288230376151711744) → l'.Pairwise (vm_dt n)) ∧ X l' h1) ∨
   (vx_J h1 625 68 ≠ 0 ∧ ∃ l', (∀ w, w ∈ l' → vm_sat (vn_D lim rr) L w ∧ ∀ v, v < n → vz_va (w v)) ∧ Y l' h1))
section
variable {d c n lim : Nat} {g h : ve_H} {Pd : vy_V} {L : vy_L} {rr : Nat → Nat → Int} {O1 x mk : Int} {X Y : List (Nat → Int) → ve_H → Prop} {Z : List (Nat → Int) → (Nat → Int) → Prop}
theorem vn_sk_sat {jn : Nat} {js : Nat → Nat} {w : Nat → Int} (W : vz_wf O1 n L) (a1 : ∀ i, i < jn → js i < L.1 ∧ L.2.1 (js i) = 14) (a2 : ∀ j, j < L.1 → L.2.1 j = 14 → ∃ i, i < jn ∧ js i = j) : vn_sk L jn js lim rr 0 w ↔ vm_sat (vn_D lim rr) L w := by
  constructor
  · rintro ⟨b1, b2, b3⟩ j hj
    refine ⟨fun k => ?_, fun k => b3 j hj k, (b2 j hj).1, (b2 j hj).2⟩
    obtain ⟨i, i1, i2⟩ := a2 j hj k
    rw [← i2]; exact b1 i (Nat.zero_le _) i1
  · intro q
    exact ⟨fun i _ hi => (q (js i) (a1 i hi).1).1 (a1 i hi).2, vn_sat_nl q, fun j hj k => (q j hj).2.1 k⟩
theorem vc_79_70 (H : ∀ jn js, vn_HY c Pd L jn js mk n lim rr X Y Z) (W : vz_wf O1 n L) (wo : ∀ j, j < L.1 → L.2.1 j = 5 → vy_opn (L.2.2.1 j)) (n8 : n ≤ 8) (bd : ∀ v, v < n → vz_bd L v) (inj : ∀ i j, i < lim → j < lim → vr_eq 5 (rr i) (rr j) → i = j) {jn : Nat} {js : Nat → Nat} (alj : ∀ j, j < L.1 → L.2.1 j = 14 → ∃ i, i < jn ∧ js i = j) (X0 : ∀ h', vx_fr vn_W6 h h' → X [] h') (j0 : vx_J h 625 68 = 0) :
    ∀ (m v : Nat) (g : ve_H) (z : Int), m = 9 - v → v ≤ 9 → z = v → vx_T 625 672 g → vx_fr vn_W6 h g → vn_cx g c Pd L jn js mk → (∀ v', v' < v → vx_J g 664 v' = 0) → vx_W (d + 8 + 1) 79 70 [some (.ref 625), some (.int (vx_i x)), some (.int (vx_i z))] [] g (vx_RV (vn_wP L n lim rr X Y Z h)) := by
  intro m
  induction m with
  | zero =>
    intro v g z hm hv hz hT F C al
    have j3 := C.2.2.1
    have S : vn_S g (fun _ => 0) := fun v' h' => ⟨Or.inl (al v' (by omega)), fun _ q => absurd (al v' (by omega)) q⟩
    have ag : ∀ w, vn_ag g (fun _ => 0) w := fun w v' h' q => absurd (al v' (by omega)) q
    have sk : ∀ w, vn_sk L jn js lim rr 0 w ↔ vm_sat (vn_D lim rr) L w := fun w => vn_sk_sat W (fun i hi => (C.2.2.2.1 i hi).2) alj
    refine vg_79_70 hT ⟨by omega, fun _ => vx_CI_mono (vc_74 (d := d + 5) hT W wo S C.1) ?_, fun q => absurd q (by omega)⟩
    rintro r3 h3 _ ⟨F3, c3⟩ hT3
    have F3' : vx_fr vn_W6 h h3 := vx_fr_trans F (vx_fr_mono F3 (fun a k q => by omega))
    have C3 := vn_cx_fr C F3 (fun a k q => by omega)
    have j3' : vx_J h3 625 68 = 0 := (vx_fr_J F3' (by omega)).trans j0
    refine ⟨fun q3 => ⟨vx_fr_mono F3' (fun a k q => by omega), Or.inl ⟨j3', [], fun w hw => absurd hw List.not_mem_nil, fun w hw => ?_, fun _ => List.Pairwise.nil, X0 h3 F3'⟩⟩, fun q3 => ?_⟩
    · rcases c3 with ⟨a, _⟩ | ⟨_, a⟩
      · omega
      · exact absurd (vn_sat_nl hw) (a w (ag w))
    · have go := vn_way (d := d + (3 - jn)) (H jn js) W wo n8 bd inj alj jn 0 h3 [] (fun _ => 0) 0 (by omega) rfl hT3 C3 (X0 h3 F3') j3' (vn_S_fr S F3 (fun k => ⟨by omega, by omega⟩)) (fun i hi => absurd hi (by omega))
      rw [show d + (3 - jn) + jn + 4 + 1 = d + 8 by omega] at go
      refine vx_CV_mono go ?_
      rintro h5 ⟨P1, _, _, P4⟩ _
      have ag3 : ∀ w, vn_ag h3 (fun _ => 0) w := fun w => (vn_ag_fr F3 (fun k => by omega)).mpr (ag w)
      refine ⟨vx_fr_trans (vx_fr_mono F3' (fun a k q => by omega)) (vx_fr_mono P1 (fun a k q => Or.inl q)), ?_⟩
      rcases P4 with ⟨a1, l', a2, a3, a4, a5⟩ | ⟨a1, l', a2, a3⟩
      · exact Or.inl ⟨a1, l', fun w hw => ⟨(sk w).mp (a2 w hw).2.1, (a2 w hw).2.2⟩, fun w hw => a3 w (ag3 w) ((sk w).mpr hw), a4, a5⟩
      · exact Or.inr ⟨a1, l', fun w hw => ⟨(sk w).mp (a2 w hw).2.1, (a2 w hw).2.2⟩, a3⟩
  | succ m ih =>
    intro v g z hm hv hz hT F C al
    refine vg_79_70 hT ⟨by omega, fun q => absurd q (by omega), fun _ => ⟨by omega, ?_⟩⟩
    rintro h7 e7 hT7
    rw [show z.toNat = v by omega] at e7
    have F7 : vx_fr (fun a _ => a = 664) g h7 := vx_fr_sJ vx_fr_refl e7 rfl
    refine ih (v + 1) h7 (z + 1) (by omega) (by omega) (by omega) hT7 (vx_fr_trans F (vx_fr_mono F7 (fun a k q => by omega))) (vn_cx_fr C F7 (fun a k q => by omega)) (fun v' h' => ?_)
    rw [e7]
    by_cases e : v' = v
    · rw [e, vx_J_eq (by decide)]
    · rw [vx_J_ne (by omega)]; exact al v' (by omega)
theorem vc_79_15 (H : ∀ jn js, vn_HY c Pd L jn js mk n lim rr X Y Z) (W : vz_wf O1 n L) (wo : ∀ j, j < L.1 → L.2.1 j = 5 → vy_opn (L.2.2.1 j)) (n8 : n ≤ 8) (bd : ∀ v, v < n → vz_bd L v) (inj : ∀ i j, i < lim → j < lim → vr_eq 5 (rr i) (rr j) → i = j) (na3 : vz_na L L.1 ≤ 3) (X0 : ∀ h', vx_fr vn_W6 h h' → X [] h') (j0 : vx_J h 625 68 = 0) (hx : x = c) :
    ∀ (m j : Nat) (g : ve_H) (z : Int) (js : Nat → Nat), m = L.1 - j → j ≤ L.1 → z = ((6 * c + j : Nat) : Int) → vx_T 625 672 g → vx_fr vn_W6 h g → vn_lx g c Pd L → vx_J g 625 66 = mk → vx_J g 625 70 = (vz_na L j : Nat) → (∀ i, i < vz_na L j → vx_J g 666 i = ((6 * c + js i : Nat) : Int) ∧ js i < j ∧ L.2.1 (js i) = 14) → (∀ j', j' < j → L.2.1 j' = 14 → ∃ i, i < vz_na L j ∧ js i = j') → vx_W (d + 8 + 1) 79 15 [some (.ref 625), some (.int (vx_i x)), some (.int (vx_i z))] [] g (vx_RV (vn_wP L n lim rr X Y Z h)) := by
  intro m
  induction m with
  | zero =>
    intro j g z js hm hj hz hT F lx g66 g70 a1 a2
    have c61 := lx.2.1
    have L6 := lx.2.2.2.1
    have ej : j = L.1 := by omega
    subst ej
    refine vg_79_15 hT ?_
    rw [show x.toNat = c by omega, lx.2.2.1]
    refine ⟨by omega, by omega, by omega, fun _ => ?_, fun q => absurd q (by omega)⟩
    exact vc_79_70 (d := d) H W wo n8 bd inj (jn := vz_na L L.1) (js := js) a2 X0 j0 9 0 g 0 rfl (by omega) rfl hT F ⟨lx, g70, na3, a1, g66⟩ (fun v' h' => absurd h' (by omega))
  | succ m ih =>
    intro j g z js hm hj hz hT F lx g66 g70 a1 a2
    have c61 := lx.2.1
    have L6 := lx.2.2.2.1
    have hj' : j < L.1 := by omega
    obtain ⟨hl, k43, _⟩ := vn_lq lx hj'
    have rk := vn_rk (L.2.1 j)
    have nas : vz_na L (j + 1) = vz_na L j + (if L.2.1 j = 14 then 1 else 0) := by
      unfold vz_na
      show vr_n _ j + (bif decide (L.2.1 j = 14) then 1 else 0) = _
      congr 1
      by_cases q : L.2.1 j = 14
      · rw [if_pos q, decide_eq_true q]; rfl
      · rw [if_neg q, decide_eq_false q]; rfl
    have mono : ∀ k, j + 1 + k ≤ L.1 → vz_na L (j + 1) ≤ vz_na L (j + 1 + k) := by
      intro k
      induction k with
      | zero => intro _; exact Nat.le_refl _
      | succ k ihk =>
        intro hk
        have := ihk (by omega)
        have e : vz_na L (j + 1 + k) ≤ vz_na L (j + 1 + k + 1) := Nat.le_add_right _ _
        exact Nat.le_trans this e
    have le3 : vz_na L (j + 1) ≤ 3 := by
      have := mono (L.1 - (j + 1)) (by omega)
      rw [show j + 1 + (L.1 - (j + 1)) = L.1 by omega] at this
      omega
    refine vg_79_15 hT ?_
    rw [show x.toNat = c by omega, lx.2.2.1, show z.toNat = 6 * c + j by omega, k43, g70]
    refine ⟨by omega, by omega, by omega, fun q => absurd q (by omega), fun _ => ⟨by omega, fun q => ?_, fun q => ?_⟩⟩
    · have k14 := rk.2.2.1.mp q
      rw [if_pos k14] at nas
      refine ⟨by omega, ?_⟩
      rintro h8 e8 _ h9 e9 hT9
      rw [show ((vz_na L j : Nat) : Int).toNat = vz_na L j by omega] at e8
      have e870 : vx_J h8 625 70 = (vz_na L j : Nat) := by rw [e8, vx_J_ne (by omega)]; exact g70
      rw [e870] at e9
      have F9 : vx_fr (fun a k => a = 666 ∨ (a = 625 ∧ k = 70)) g h9 := vx_fr_sJ (vx_fr_sJ vx_fr_refl e8 (Or.inl rfl)) e9 (Or.inr ⟨rfl, rfl⟩)
      refine ih (j + 1) h9 (z + 1) (fun i => if i = vz_na L j then j else js i) (by omega) (by omega) (by omega) hT9 (vx_fr_trans F (vx_fr_mono F9 (fun a k q => by omega))) (vn_lx_fr lx F9 (fun a k q => by omega)) ((vx_fr_J F9 (by omega)).trans g66) (by rw [e9, vx_J_eq (by omega), nas]; omega) (fun i hi => ?_) (fun j' h' k' => ?_)
      · rw [e9, vx_J_ne (by omega), e8]
        by_cases e : i = vz_na L j
        · rw [e, vx_J_eq (by omega)]
          refine ⟨?_, ?_, ?_⟩
          · show z = ((6 * c + (if vz_na L j = vz_na L j then j else js (vz_na L j)) : Nat) : Int)
            rw [if_pos rfl]; exact hz
          · show (if vz_na L j = vz_na L j then j else js (vz_na L j)) < j + 1
            rw [if_pos rfl]; omega
          · show L.2.1 (if vz_na L j = vz_na L j then j else js (vz_na L j)) = 14
            rw [if_pos rfl]; exact k14
        · rw [vx_J_ne (by omega)]
          have t := a1 i (by omega)
          refine ⟨?_, ?_, ?_⟩
          · show _ = ((6 * c + (if i = vz_na L j then j else js i) : Nat) : Int)
            rw [if_neg e]; exact t.1
          · show (if i = vz_na L j then j else js i) < j + 1
            rw [if_neg e]; omega
          · show L.2.1 (if i = vz_na L j then j else js i) = 14
            rw [if_neg e]; exact t.2.2
      · by_cases e : j' = j
        · refine ⟨vz_na L j, by omega, ?_⟩
          show (if vz_na L j = vz_na L j then j else js (vz_na L j)) = j'
          rw [if_pos rfl, e]
        · obtain ⟨i, i1, i2⟩ := a2 j' (by omega) k'
          refine ⟨i, by omega, ?_⟩
          show (if i = vz_na L j then j else js i) = j'
          rw [if_neg (by omega)]; exact i2
    · have k14 : L.2.1 j ≠ 14 := fun t => q (rk.2.2.1.mpr t)
      rw [if_neg k14] at nas
      refine ih (j + 1) g (z + 1) js (by omega) (by omega) (by omega) hT F lx g66 (by rw [g70, nas]; omega) (fun i hi => ?_) (fun j' h' k' => ?_)
      · have t := a1 i (by omega)
        exact ⟨t.1, by omega, t.2.2⟩
      · obtain ⟨i, i1, i2⟩ := a2 j' (by
          have : j' ≠ j := fun e => k14 (by rw [← e]; exact k')
          omega) k'
        exact ⟨i, by omega, i2⟩
theorem vc_79 (H : ∀ jn js, vn_HY c Pd L jn js mk n lim rr X Y Z) (W : vz_wf O1 n L) (wo : ∀ j, j < L.1 → L.2.1 j = 5 → vy_opn (L.2.2.1 j)) (n8 : n ≤ 8) (bd : ∀ v, v < n → vz_bd L v) (inj : ∀ i j, i < lim → j < lim → vr_eq 5 (rr i) (rr j) → i = j) (na3 : vz_na L L.1 ≤ 3) (X0 : ∀ h', vx_fr vn_W6 h h' → X [] h') (j0 : vx_J h 625 68 = 0) (hx : x = c) (hc : c < 61) (hT : vx_T 625 672 h) (rl : vy_rl h c Pd (0, 0) L) (g66 : vx_J h 625 66 = mk) : vx_CV (d + 9) 79 [.ref 625, .int (vx_i x)] h (vn_wP L n lim rr X Y Z h) := by
  refine vg_79 hT (fun h1 e1 _ h2 e2 hT2 => ?_)
  have F2 : vx_fr (fun a k => a = 625 ∧ (k = 42 ∨ k = 70)) h h2 := vx_fr_sJ (vx_fr_sJ vx_fr_refl e1 (by omega)) e2 (by omega)
  have e42 : vx_J h2 625 42 = c := by rw [e2, vx_J_ne (by omega), e1, vx_J_eq (by omega)]; exact hx
  have lx : vn_lx h2 c Pd L := by
    obtain ⟨x3, x4, x5⟩ := rl
    have n : ∀ a k, a ≠ 625 → ¬ (a = 625 ∧ (k = 42 ∨ k = 70)) := fun a k q t => q t.1
    refine ⟨e42, hc, (vx_fr_J F2 (n 641 c (by decide))).trans x3, x4, fun i hi => ?_⟩
    obtain ⟨y1, y2, m, y3, y4, y5, y6, y7, y8⟩ := x5 i hi
    refine ⟨(vx_fr_J F2 (n 660 _ (by decide))).trans y1, (vx_fr_J F2 (n 643 _ (by decide))).trans y2, m, y3, fun k hk => ?_, y5, fun q => ?_, fun q => ?_, fun q => ?_⟩
    · rw [vx_fr_J F2 (n 645 _ (by decide)), vx_fr_K F2 (n 646 _ (by decide))]; exact y4 k hk
    · rw [vx_fr_J F2 (n 661 _ (by decide)), vx_fr_J F2 (n 644 _ (by decide))]; exact y6 q
    · rw [vx_fr_J F2 (n 644 _ (by decide))]; exact y7 q
    · rw [vx_fr_J F2 (n 644 _ (by decide))]; exact y8 q
  exact vc_79_15 (d := d) H W wo n8 bd inj na3 X0 j0 hx L.1 0 h2 _ (fun _ => 0) (by omega) (by omega) (by omega) hT2 (vx_fr_mono F2 (fun a k q => by omega)) lx ((vx_fr_J F2 (by omega)).trans g66) (by rw [e2, vx_J_eq (by decide)]; rfl) (fun i hi => absurd (show i < 0 from hi) (by omega)) (fun j' h' => absurd h' (by omega))
end
