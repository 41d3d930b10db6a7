/-! A rule in a round: the reference -/
/-- the program of a side -/
def vn_pc (h : ve_H) (sd : Nat) (S : vu_S) (st : Nat → Nat) : Prop := vn_cs h sd S.1 ∧ vx_J h 635 sd = S.2.2.1 ∧ (∀ r, r < S.2.2.1 → vu_rr h (30 * sd + r) S.1 (0, 0) (S.2.2.2.1 r)) ∧ vs_rs h sd st ∧ vu_rN h sd S.1 S.2.2.2.2.1 S.2.2.2.2.2
def vn_Qr (S : vu_S) (st : Nat → Nat) (s t c0 : Nat) (r0 : Nat → Nat → Int) (m0 : Nat → Int) (h : ve_H) (cnt : Nat) (rr : Nat → Nat → Int) (cm : Nat → Int) : Prop := vn_T h S.1 cnt rr cm ∧ cnt ≤ 200 ∧ vm_bs c0 r0 m0 st s ((t : Int) + 1) cnt rr cm ∧ ∀ i, i < cnt → vm_mt S st s (t + 1) (rr i)
def vn_rp (S : vu_S) (st : Nat → Nat) (s t c0 : Nat) (r0 : Nat → Nat → Int) (m0 : Nat → Int) (N : Nat) (R : vu_R) (cnt : Nat) (rr : Nat → Nat → Int) (h1 : ve_H) : Prop := (vx_J h1 625 68 = 0 ∧ ∃ cnt1 rr1 cm1, vn_Qr S st s t c0 r0 m0 h1 cnt1 rr1 cm1 ∧ vm_ke cnt rr cnt1 rr1 ∧ (∀ f, vm_nr R (t = 0) (vm_mt S st s t) f → ∃ i, i < cnt1 ∧ vr_eq 5 (rr1 i) f) ∧ (t = 0 → R.2.2.1.1 ≠ -1 → ∃ l, vm_lg R (vm_mt S st s 0) l)) ∨ (vx_J h1 625 68 ≠ 0 ∧ vm_big S st N)
abbrev vn_Wr (a k : Nat) : Prop := vn_Wz a k ∨ (a = 625 ∧ k = 66)
section
variable {d c m p sd r s t N c0 cnt gc : Nat} {h h1 g : ve_H} {S : vu_S} {R : vu_R} {st : Nat → Nat} {rr r0 gr : Nat → Nat → Int} {cm m0 am : Nat → Int} {x : Int} {l : List (Nat → Int)}
theorem vn_pc_fr {Sx : Nat → Nat → Prop} (C : vn_pc h sd S st) (F : vx_fr Sx h h1) (hs : ∀ a k, Sx a k → (a = 625 ∧ k ≠ 11) ∨ (650 ≤ a ∧ a ≤ 654) ∨ 664 ≤ a) : vn_pc h1 sd S st := by
  have n : ∀ a k, 626 ≤ a → a ≤ 663 → (a < 650 ∨ 654 < a) → ¬ Sx a k := fun a k a1 a2 a3 q => by have := hs a k q; omega
  obtain ⟨c1, c2, c3, c4, c5⟩ := C
  refine ⟨vn_cs_fr c1 F (fun a k q => by have := hs a k q; omega), (vx_fr_J F (n _ _ (by decide) (by decide) (by decide))).trans c2, fun r hr => vu_rr_fr (c3 r hr) F (fun a ha => n _ _ (by omega) (by omega) (by omega)) (fun k _ _ => ⟨n _ _ (by decide) (by decide) (by decide), n _ _ (by decide) (by decide) (by decide)⟩) (fun k _ _ => ⟨n _ _ (by decide) (by decide) (by decide), n _ _ (by decide) (by decide) (by decide), n _ _ (by decide) (by decide) (by decide), n _ _ (by decide) (by decide) (by decide)⟩) (fun k _ _ => ⟨n _ _ (by decide) (by decide) (by decide), n _ _ (by decide) (by decide) (by decide)⟩), fun p hp => (vx_fr_J F (n _ _ (by decide) (by decide) (by decide))).trans (c4 p hp), vu_rN_fr c5 F (fun k => ⟨n _ _ (by decide) (by decide) (by decide), n _ _ (by decide) (by decide) (by decide), n _ _ (by decide) (by decide) (by decide)⟩)⟩
/-- a rule's head -/
theorem vn_pc_hd (C : vn_pc h sd S st) (hr : r < S.2.2.1) (eR : S.2.2.2.1 r = R) : ∃ p m : Nat, R.1 = p ∧ p < S.1.1 ∧ S.1.2.2 p = m ∧ vn_hd h (30 * sd + r) R m := by
  have t := C.2.2.1 r hr
  rw [eR] at t
  obtain ⟨t1, t2, t3, t4, t5, m, m4, t6, t7, t8⟩ := t
  obtain ⟨p, p1, p2, p3⟩ := t8 rfl
  exact ⟨p, m, p2, p1, p3, t5, m4, t6, t7⟩
theorem vn_inj (T : vn_T h S.1 cnt rr cm) (B : vm_bs c0 r0 m0 st s ((t : Int) + 1) cnt rr cm) : ∀ i j, i < c0 → j < c0 → vr_eq 5 (r0 i) (r0 j) → i = j := fun i j hi hj e => T.2.2 i j (by have := B.1; omega) (by have := B.1; omega) (vr_eq_trans (B.2.1 i hi).1 (vr_eq_trans e (vr_eq_symm (B.2.1 j hj).1)))
theorem vn_eD (V : vm_lv S st s t c0 r0 m0) : vn_D c0 r0 = vm_mt S st s t := funext (fun f => propext (V.1 f).symm)
/-- a rule without a total -/
theorem vn_ruleA (PG : vm_pg S st) (w3 : vu_w3 S) (hr : r < S.2.2.1) (eR : S.2.2.2.1 r = R) (hst : st R.1.toNat = s) (hO : R.2.2.1.1 = -1) (hsN : s < N) (V : vm_lv S st s t c0 r0 m0) (C : vn_pc h sd S st) (hT : vx_T 625 672 h) (e65 : vx_J h 625 65 = c0) (e66 : vx_J h 625 66 = 0) (e67 : vx_J h 625 67 = (t : Int) + 1) (Q : vn_Qr S st s t c0 r0 m0 h cnt rr cm) (j0 : vx_J h 625 68 = 0) (hx : x = ((30 * sd + r : Nat) : Int)) : vx_CV (d + 9) 79 [.ref 625, .int (vx_i x)] h (fun h1 => vx_fr vn_Wr h h1 ∧ vn_rp S st s t c0 r0 m0 N R cnt rr h1) := by
  have W := PG.1.1 r hr
  have na := w3 r hr
  have n30 := PG.2.2.2.2
  have sd2 := C.1.1.1
  rw [eR] at W na
  obtain ⟨p, m, p1, p2, p3, H0⟩ := vn_pc_hd C hr eR
  have hst' : (st p : Int) = s := by rw [p1, show ((p : Nat) : Int).toNat = p by omega] at hst; omega
  obtain ⟨q1, q2, q3, q4⟩ := Q
  have rl := (C.2.2.1 r hr).2.1
  rw [eR] at rl
  obtain ⟨T0, eT0⟩ : ∃ T0 : vm_S, T0 = fun f => ∃ i, i < cnt ∧ vr_eq 5 (rr i) f := ⟨_, rfl⟩
  have cT0 : vm_cg 5 T0 := by
    rw [eT0]
    rintro f g e ⟨i, i1, i2⟩
    exact ⟨i, i1, vr_eq_trans i2 e⟩
  have X0 : ∀ h', vx_fr vn_W6 h h' → vn_XA h S.1 c0 r0 m0 st s ((t : Int) + 1) R T0 [] h' := fun h' F => ⟨vx_fr_mono F (fun a k q => Or.inl q), cnt, rr, cm, vn_T_fr q1 F (fun a k q => by omega), q2, q3, fun i hi => Or.inl (by rw [eT0]; exact ⟨i, hi, fun _ _ => rfl⟩), fun f hf => by
    rcases hf with t | ⟨u, t, _⟩
    · rw [eT0] at t; exact t
    · exact absurd t List.not_mem_nil⟩
  refine vx_CV_mono (vc_79 (d := d) (fun jn js => vn_HA (sN := s) p1 p2 p3 W.2.2.2.2.1 W.2.2.2.2.2.1 W.2.1 hst' cT0 C.1 H0 (by omega) e67 e65 rfl) W.1 (fun j hj k => (W.2.2.2.2.2.2.2.1 j hj).2.2 k) W.2.1 W.2.2.2.1 (vn_inj q1 q3) na X0 j0 hx (by omega) hT rl e66) ?_
  rintro h1 ⟨F1, q⟩
  refine ⟨vx_fr_mono F1 (fun a k q => Or.inl q), ?_⟩
  rw [vn_eD V] at q
  have snd : ∀ l : List (Nat → Int), (∀ w, w ∈ l → vm_sat (vm_mt S st s t) R.2.2.2.2 w ∧ ∀ v, v < R.2.2.2.1 → vz_va (w v)) → ∀ f, (T0 f ∨ ∃ u, u ∈ l ∧ vr_eq 5 f (vm_gl R u)) → vm_mt S st s (t + 1) f := by
    intro l hl f hf
    rcases hf with t | ⟨u, u1, u2⟩
    · rw [eT0] at t
      obtain ⟨i, i1, i2⟩ := t
      exact vm_rd_cg vm_ba_cg _ _ _ i2 (q4 i i1)
    · exact Or.inr ⟨r, hr, by rw [eR]; exact hst, by rw [eR]; exact Or.inl ⟨hO, u, (hl u u1).1, u2⟩⟩
  rcases q with ⟨j1, l', l1, l2, _, _, cnt1, rr1, cm1, m1, m2, m3, m4⟩ | ⟨j1, l', l1, _, rr1, cm1, m1, m3⟩
  · refine Or.inl ⟨j1, cnt1, rr1, cm1, ⟨m1, m2, m3, fun i hi => snd l' l1 _ (m4.1 i hi)⟩, fun i hi => ?_, fun f hf => ?_, fun _ q => absurd hO q⟩
    · exact m4.2 (rr i) (Or.inl (by rw [eT0]; exact ⟨i, hi, fun _ _ => rfl⟩))
    · rcases hf with ⟨_, u, u1, u2⟩ | ⟨q, _⟩
      · rcases l2 u u1 with t | ⟨v, v1, v2⟩
        · obtain ⟨i, i1, i2⟩ := m4.2 _ (Or.inl t)
          exact ⟨i, i1, vr_eq_trans i2 (vr_eq_symm u2)⟩
        · obtain ⟨i, i1, i2⟩ := m4.2 _ (Or.inr ⟨v, v1, v2⟩)
          exact ⟨i, i1, vr_eq_trans i2 (vr_eq_symm u2)⟩
      · exact absurd hO q
  · exact Or.inr ⟨j1, Or.inl ⟨s, t + 1, rr1, hsN, fun i hi => snd l' l1 _ (m3 i hi), m1.2.2⟩⟩
abbrev vn_Wk (a k : Nat) : Prop := vn_Wt a k ∨ a = 669
/-- the row of a group -/
theorem vc_88_46 {P : ve_H → Prop} {f : Nat → Int} {v1 v2 v3 : Int} {gi kt : Nat} (hT0 : vx_T 625 672 h) (Cs : vn_cs h sd S.1) (hc : c < 61) (hv1 : v1 = c) (hv2 : v2 = m) (m4 : m ≤ 4) (hv3 : v3 = gi) (hg : gi < 202) (h36 : vx_J h 636 c = p) (h40 : vx_J h 640 c = kt) (hp : p < S.1.1) (hm : S.1.2.2 p = m) (f0 : f 0 = p) (fz : ∀ k, m ≤ k → k < 4 → f (k + 1) = 0) (fv : ∀ k, k < m → vy_vr (f (k + 1)) (if k = kt then vx_K h 671 gi else vx_K h 670 (4 * gi + k))) (T : vn_T h S.1 cnt rr cm) (c200 : cnt ≤ 200) (e67 : vx_J h 625 67 = x)
    (K : ∀ g1 g2 v4, vx_fr (fun a _ => a = 669) h g1 → vn_cP S.1 f cnt rr cm x g1 g2 → vx_T 625 672 g2 → vx_W (d + 2) 88 28 [some (.ref 625), some (.int (vx_i v1)), some (.int (vx_i v2)), some (.int (vx_i (v3 + 1))), v4] [] g2 (vx_RV P)) :
    ∀ (n k : Nat) (g : ve_H) (z : Int), n = m - k → k ≤ m → z = k → vx_T 625 672 g → vx_fr (fun a _ => a = 669) h g → (∀ k', k' < k → vy_vr (f (k' + 1)) (vx_K g 669 k')) → vx_W (d + 2) 88 46 [some (.ref 625), some (.int (vx_i v1)), some (.int (vx_i v2)), some (.int (vx_i v3)), some (.int (vx_i z))] [] g (vx_RV P) := by
  intro n
  induction n with
  | zero =>
    intro k g z hn hk hz hT F al
    have g36 : vx_J g 636 c = p := (vx_fr_J F (by omega)).trans h36
    refine vg_88_46 (d := d + 1) hT ⟨by omega, by omega, fun _ => ?_, fun q => absurd q (by omega)⟩
    rw [show v1.toNat = c by omega, g36]
    refine ⟨by omega, vx_CV_mono (vc_84 (d := d) hT (vn_cs_fr Cs F (fun a k q => by omega)) hp rfl hm m4 f0 ⟨fun k' h' => al k' (by omega), fz⟩ (vn_T_fr T F (fun a k q => by omega)) c200 ((vx_fr_J F (by omega)).trans e67)) ?_⟩
    intro h5 q hT5
    exact K g h5 _ F q hT5
  | succ n ih =>
    intro k g z hn hk hz hT F al
    have g40 : vx_J g 640 c = kt := (vx_fr_J F (by omega)).trans h40
    have fk := fv k (by omega)
    have next : ∀ (y : Int) (h9 : ve_H), vy_vr (f (k + 1)) y → h9 = vx_sK g 669 k y → vx_T 625 672 h9 → vx_W (d + 2) 88 46 [some (.ref 625), some (.int (vx_i v1)), some (.int (vx_i v2)), some (.int (vx_i v3)), some (.int (vx_i (z + 1)))] [] h9 (vx_RV P) := by
      intro y h9 hy e9 hT9
      refine ih (k + 1) h9 (z + 1) (by omega) (by omega) (by omega) hT9 (vx_fr_sK F e9 rfl) (fun k' h' => ?_)
      by_cases e : k' = k
      · rw [e, e9, vx_K_eq (vy_vr_l hy).1]; exact hy
      · rw [e9, vx_K_ne (by omega)]; exact al k' (by omega)
    refine vg_88_46 (d := d + 1) hT ⟨by omega, by omega, fun q => absurd q (by omega), fun _ => ?_⟩
    rw [show v1.toNat = c by omega, g40, show z.toNat = k by omega, show (4 * v3 + z).toNat = 4 * gi + k by omega, show v3.toNat = gi by omega, vx_fr_K F (show ¬ (670 : Nat) = 669 by decide), vx_fr_K F (show ¬ (671 : Nat) = 669 by decide)]
    refine ⟨by omega, fun q => ⟨by omega, by omega, fun h9 e9 hT9 => next _ h9 ?_ e9 hT9⟩, fun q => ⟨by omega, by omega, fun h9 e9 hT9 => next _ h9 ?_ e9 hT9⟩⟩
    · rw [if_neg (by omega)] at fk; exact fk
    · rw [if_pos (by omega)] at fk; exact fk
/-- the rows of the groups -/
theorem vc_88_28 {v1 v2 : Int} {cntS : Nat} {rrS : Nat → Nat → Int} (PG : vm_pg S st) (hr : r < S.2.2.1) (eR : S.2.2.2.1 r = R) (hst : st R.1.toNat = s) (hO : R.2.2.1.1 ≠ -1) (hsN : s < N) (C : vn_pc h sd S st) (ec : c = 30 * sd + r) (hv1 : v1 = c) (p1 : R.1 = p) (p2 : p < S.1.1) (p3 : S.1.2.2 p = m) (H0 : vn_hd h c R m) (hv2 : v2 = m) (h40 : vx_J h 640 c = (vm_kt R : Nat)) (ktm : vm_kt R < m) (e67 : vx_J h 625 67 = 1) (lg : vm_lg R (vm_mt S st s 0) l) (G : vn_G h R (vm_kt R) m l gc gr am) :
    ∀ (n gi : Nat) (g : ve_H) (z : Int) (v4 : Option Value) (cnt : Nat) (rr : Nat → Nat → Int) (cm : Nat → Int), n = gc - gi → gi ≤ gc → z = gi → vx_T 625 672 g → vx_fr vn_Wk h g → vx_J g 625 68 = 0 → vn_Qr S st s 0 c0 r0 m0 g cnt rr cm → vm_ke cntS rrS cnt rr → (∀ g', g' < gi → ∃ i, i < cnt ∧ vr_eq 5 (rr i) (fun k => if k = vm_kt R + 1 then am g' else gr g' k)) →
    vx_W (d + 2) 88 28 [some (.ref 625), some (.int (vx_i v1)), some (.int (vx_i v2)), some (.int (vx_i z)), v4] [] g (vx_RV (fun h1 => vx_fr vn_Wk h h1 ∧ ((vx_J h1 625 68 = 0 ∧ ∃ cnt rr cm, vn_Qr S st s 0 c0 r0 m0 h1 cnt rr cm ∧ vm_ke cntS rrS cnt rr ∧ ∀ g', g' < gc → ∃ i, i < cnt ∧ vr_eq 5 (rr i) (fun k => if k = vm_kt R + 1 then am g' else gr g' k)) ∨ (vx_J h1 625 68 ≠ 0 ∧ vm_big S st N)))) := by
  have W := PG.1.1 r hr
  rw [eR] at W
  have p16 : p < 16 := by have := PG.2.2.2.1; omega
  have hst' : (st p : Int) = s := by rw [p1, show ((p : Nat) : Int).toNat = p by omega] at hst; omega
  have n30 := PG.2.2.2.2
  have sd2 := C.1.1.1
  have m4 := H0.2.1
  intro n
  induction n with
  | zero =>
    intro gi g z v4 cnt rr cm hn hg hz hT F j0 Q ke don
    have g75 : vx_J g 625 75 = gc := (vx_fr_J F (by omega)).trans G.1
    have := G.2.1
    exact vg_88_28 (d := d + 1) hT ⟨by omega, fun _ => ⟨F, Or.inl ⟨j0, cnt, rr, cm, Q, ke, fun g' hg' => don g' (by omega)⟩⟩, fun q => absurd q (by omega)⟩
  | succ n ih =>
    intro gi g z v4 cnt rr cm hn hg hz hT F j0 Q ke don
    have g75 : vx_J g 625 75 = gc := (vx_fr_J F (by omega)).trans G.1
    have g201 := G.2.1
    have gg : gi < gc := by omega
    obtain ⟨b1, b2, b3, b4, u, u1, u2⟩ := G.2.2.1 gi gg
    have av : vz_va (am gi) := ⟨_, b2⟩
    have gv := vm_gl_vr (u := u) p1 p16 W.2.2.2.2.1 W.2.2.2.2.2.1 (lg.1 u u1).2
    obtain ⟨f, ef⟩ : ∃ f : Nat → Int, f = fun k => if k = vm_kt R + 1 then am gi else gr gi k := ⟨_, rfl⟩
    have ftr : vr_eq 5 f (vm_tr R u (am gi)) := fun k hk => by
      rw [ef]
      unfold vm_tr
      show (if k = vm_kt R + 1 then am gi else gr gi k) = _
      by_cases q : k = vm_kt R + 1
      · rw [if_pos q, if_pos q]
      · rw [if_neg q, if_neg q]; exact u2 k hk
    have f0 : f 0 = p := by
      rw [ef]
      show (if 0 = vm_kt R + 1 then am gi else gr gi 0) = _
      rw [if_neg (by omega), u2 0 (by omega)]
      exact vn_ky_0 p1
    have fz : ∀ k, m ≤ k → k < 4 → f (k + 1) = 0 := fun k hk k4 => by
      rw [ef]
      show (if k + 1 = vm_kt R + 1 then am gi else gr gi (k + 1)) = 0
      rw [if_neg (by omega), u2 (k + 1) (by omega)]
      exact vn_ky_z p1 H0.2.2.2 hk
    have fvr : vm_vr f := by
      refine ⟨⟨p, f0, p16⟩, fun k hk => ?_⟩
      rw [ef]
      show vz_va (if k + 1 = vm_kt R + 1 then am gi else gr gi (k + 1))
      by_cases q : k + 1 = vm_kt R + 1
      · rw [if_pos q]; exact av
      · rw [if_neg q, u2 (k + 1) (by omega), vm_ky_n q]; exact gv.1.2 k hk
    have fv : ∀ k, k < m → vy_vr (f (k + 1)) (if k = vm_kt R then vx_K g 671 gi else vx_K g 670 (4 * gi + k)) := fun k hk => by
      rw [ef, vx_fr_K F (by omega), vx_fr_K F (by omega)]
      show vy_vr (if k + 1 = vm_kt R + 1 then am gi else gr gi (k + 1)) _
      by_cases q : k = vm_kt R
      · rw [if_pos (by omega), if_pos q]; exact b2
      · rw [if_neg (by omega), if_neg q]; exact b1 k hk
    have fmt : vm_mt S st s 1 f := Or.inr ⟨r, hr, by rw [eR]; exact hst, by rw [eR]; exact Or.inr ⟨hO, rfl, l, lg, u, u1, am gi, by rw [← vm_ws_congr u2]; exact b4, ftr⟩⟩
    obtain ⟨q1, q2, q3, q4⟩ := Q
    have Cg := vn_pc_fr C F (fun a k q => by omega)
    refine vg_88_28 (d := d + 1) hT ⟨by omega, fun q => absurd q (by omega), fun _ => ⟨fun q => absurd j0 q, fun _ => ?_⟩⟩
    refine vc_88_46 (d := d) (S := S) (f := f) hT Cg.1 (c := c) (by omega) hv1 hv2 m4 hz (by omega) (by rw [vx_fr_J F (by omega), H0.1, p1]) ((vx_fr_J F (by omega)).trans h40) p2 p3 f0 fz fv q1 q2 ((vx_fr_J F (by omega)).trans e67) ?_ m 0 g 0 rfl (by omega) rfl hT vx_fr_refl (fun k' h' => absurd h' (by omega))
    intro g1 g2 v4' F1 cp hT2
    obtain ⟨F2, cnt1, rr1, cm1, T1, B1, j1, a1, a2, a3⟩ := vn_addA q3 (vn_T_fr q1 F1 (fun a k q => by omega)) q2 f0 hst' fvr ((vx_fr_J F1 (by omega)).trans j0) cp
    have FF : vx_fr vn_Wk h g2 := vx_fr_trans F (vx_fr_trans (vx_fr_mono F1 (fun a k q => Or.inr q)) (vx_fr_mono F2 (fun a k q => Or.inl q)))
    have mt1 : ∀ i, i < cnt1 → vm_mt S st s (0 + 1) (rr1 i) := fun i hi => by
      rcases a1 i hi with ⟨j, t1, t2⟩ | t
      · exact vm_rd_cg vm_ba_cg _ _ _ (vr_eq_symm t2) (q4 j t1)
      · exact vm_rd_cg vm_ba_cg _ _ _ (vr_eq_symm t) fmt
    rcases j1 with ⟨j1, c1⟩ | ⟨j1, c1⟩
    · refine ih (gi + 1) g2 (z + 1) v4' cnt1 rr1 cm1 (by omega) (by omega) (by omega) hT2 FF j1 ⟨T1, c1, B1, mt1⟩ (fun i hi => ?_) (fun g' hg' => ?_)
      · obtain ⟨j, t1, t2⟩ := ke i hi
        obtain ⟨j', t3, t4⟩ := a2 j t1
        exact ⟨j', t3, vr_eq_trans t4 t2⟩
      · by_cases q : g' = gi
        · rw [q]
          obtain ⟨j, t1, t2⟩ := a3
          exact ⟨j, t1, by rw [← ef]; exact t2⟩
        · obtain ⟨j, t1, t2⟩ := don g' (by omega)
          obtain ⟨j', t3, t4⟩ := a2 j t1
          exact ⟨j', t3, vr_eq_trans t4 t2⟩
    · subst c1
      have c75 : vx_J g2 625 75 = gc := (vx_fr_J FF (by omega)).trans G.1
      have fin : vx_fr vn_Wk h g2 ∧ ((vx_J g2 625 68 = 0 ∧ ∃ cnt rr cm, vn_Qr S st s 0 c0 r0 m0 g2 cnt rr cm ∧ vm_ke cntS rrS cnt rr ∧ ∀ g', g' < gc → ∃ i, i < cnt ∧ vr_eq 5 (rr i) (fun k => if k = vm_kt R + 1 then am g' else gr g' k)) ∨ (vx_J g2 625 68 ≠ 0 ∧ vm_big S st N)) := ⟨FF, Or.inr ⟨j1, Or.inl ⟨s, 0 + 1, rr1, hsN, mt1, T1.2.2⟩⟩⟩
      exact vg_88_28 (d := d + 1) hT2 ⟨by omega, fun _ => fin, fun _ => ⟨fun _ => fin, fun q => absurd q j1⟩⟩
end
