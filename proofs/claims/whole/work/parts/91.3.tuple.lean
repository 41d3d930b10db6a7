/-! tuple, round: the pairs -/
/-- no row stands at that place -/
def vi_no (cnt : Nat) (rr : Nat → Nat → Int) (x y : Int) : Prop := ∀ t, t < cnt → rr t 0 = x → (vn_ap cnt rr x t : Int) ≠ y
section
variable {d L cnt cnt' p pi sd : Nat} {h g : ve_H} {xs : Nat → Int32} {S S' : vu_S} {st : Nat → Nat} {Pd : vy_V} {rr rr' : Nat → Nat → Int} {cm cm' : Nat → Int} {o : Nat → Nat} {x y z : Int} {I' : ve_H → Prop}
/-- tuple: the class -/
theorem vc_10 (hT : vx_T 1 625 h) (p1 : ve_R h 1 3 = some pi) (C : vy_cp h pi Pd) (s1 : vx_J h 1 8 = 1) (m1 : vm_M h cnt rr cm) (V : ∀ i, i < cnt → vm_vr (rr i)) (m2 : cnt ≤ 200) (m4 : vr_so 5 rr o cnt) (m5 : ∀ j, j < cnt → vx_J h 25 j = o j) (T : vn_T h Pd cnt' rr' cm') (ec : cnt = cnt') (ag : ∀ i, i < cnt → ∃ j, j < cnt' ∧ vr_eq 5 (rr i) (rr' j)) (A : ∀ i, i < cnt' → ∃ j, j < cnt ∧ vr_eq 5 (rr' i) (rr (o j))) (hx : x = p) (hp : p < Pd.1) (hy : vx_rI y) (hz : vx_rI z) (rk : ve_rk h 6 = true) : vx_CXL (d + 3) 10 [.ref 1, .int (vx_i x), .int (vx_i y), .int (vx_i z)] h (fun r h1 => h1 = h ∧ ∃ t, t < cnt' ∧ rr' t 0 = x ∧ (vn_ap cnt' rr' x t : Int) = y ∧ 0 ≤ z ∧ z < Pd.2.2 p ∧ r = vx_K h 652 (4 * t + z.toNat)) (fun kx h1 => kx = 12 ∧ vx_fq (fun _ _ => False) h h1 ∧ (vi_no cnt' rr' x y ∨ z < 0 ∨ Pd.2.2 p ≤ z)) := by
  have p16 := C.2.2.1
  have c := C.2.2.2 p hp
  have dj := m1.1.2.2.2.2.2
  have e30 : vx_J h 30 p = (vn_of cnt' rr' x : Nat) := by
    rw [(m1.2.2 p (by omega)).2, vm_cl_n, ← vn_of_eq (rr := rr) ec.symm dj ag, hx]; rfl
  have bad : (vi_no cnt' rr' x y ∨ z < 0 ∨ Pd.2.2 p ≤ z) → ve_rk h 6 = true ∧ ∀ h3, h3 = ve_new h 12 6 → vx_T 1 625 h3 → (12 : Nat) = 12 ∧ vx_fq (fun _ _ => False) h h3 ∧ (vi_no cnt' rr' x y ∨ z < 0 ∨ Pd.2.2 p ≤ z) := fun q => ⟨rk, fun h3 e3 _ => ⟨rfl, vx_fq_new e3, q⟩⟩
  refine vg_10 (d := d + 2) hT ⟨hy, fun q => bad (Or.inl (fun t _ _ => by omega)), fun q0 => vx_CI_mono (vc_13 hT p1 C hx hp (fun _ => e30) (fun t => absurd s1 t)) ?_⟩
  rintro r5 h5 _ ⟨E5, e5⟩ _
  rw [E5, e5]
  refine ⟨fun q => bad (Or.inl (fun t a b => by have := vn_ap_lt a b; omega)), fun q => ⟨hz, fun qz => bad (Or.inr (Or.inl qz)), fun qz => ⟨pi, p1, C.1, by omega, ?_⟩⟩⟩
  rw [show x.toNat = p by omega, c.2.1]
  refine ⟨fun q3 => vx_CI_mono (vc_133 hT m1 V hx (by omega)) ?_, fun q3 => bad (Or.inr (Or.inr q3))⟩
  rintro r16 h16 _ ⟨E16, e16⟩ _
  rw [vn_sm_eq (rr' := rr') ec.symm dj ag] at e16
  rw [E16, e16]
  obtain ⟨i, ei⟩ : ∃ i : Nat, y = i := ⟨y.toNat, by omega⟩
  obtain ⟨k, ek⟩ : ∃ k : Nat, z = k := ⟨z.toNat, by omega⟩
  obtain ⟨j1, t, t1, t2, t3, t4⟩ := vn_tup (x := x) (i := i) m4 ec.symm T.2.2 A (by omega)
  obtain ⟨j, ej⟩ : ∃ j, vn_sm cnt' rr' x + i = j := ⟨_, rfl⟩
  rw [ej] at j1 t4
  have oj := m4.1 j j1
  have cell := m1.1.2.2.2.1 (o j) (k + 1) oj (by omega)
  have za := vm_K23.1.2.2
  rw [vm_K23.2.1] at cell za
  refine vg_180 vm_K23.1.1 hT ?_
  rw [vm_K23.2.2.2, vm_K23.2.1, show (((vn_sm cnt' rr' x : Nat) : Int) + y).toNat = j by omega, m5 j j1, m1.1.1, show ((o j : Int) * ((5 : Nat) : Int) + (z + 1)).toNat = o j * 5 + (k + 1) by omega, za, cell, ← t4 (k + 1) (by omega)]
  refine ⟨by omega, by omega, fun _ => vx_CL_mono (vc_14 (d := d) hT ((T.2.1 t t1).1.2 k (by omega))) ?_⟩
  rintro r18 h18 _ ⟨E18, e18⟩ _
  exact ⟨E18, t, t1, t2, by omega, qz, q3, by rw [e18, show z.toNat = k by omega]⟩
/-- round: the class -/
theorem vc_11 (hT : vx_T 1 625 h) (p1 : ve_R h 1 3 = some pi) (C : vy_cp h pi Pd) (s1 : vx_J h 1 8 = 1) (m1 : vm_M h cnt rr cm) (V : ∀ i, i < cnt → vm_vr (rr i)) (m2 : cnt ≤ 200) (m4 : vr_so 5 rr o cnt) (m5 : ∀ j, j < cnt → vx_J h 25 j = o j) (T : vn_T h Pd cnt' rr' cm') (ec : cnt = cnt') (ag : ∀ i, i < cnt → ∃ j, j < cnt' ∧ vr_eq 5 (rr i) (rr' j) ∧ cm i = cm' j) (A : ∀ i, i < cnt' → ∃ j, j < cnt ∧ vr_eq 5 (rr' i) (rr (o j))) (hx : x = p) (hp : p < Pd.1) (hy : vx_rI y) (rk : ve_rk h 6 = true) : vx_CX (d + 3) 11 [.ref 1, .int (vx_i x), .int (vx_i y)] h (fun r h1 => h1 = h ∧ ∃ t, t < cnt' ∧ rr' t 0 = x ∧ (vn_ap cnt' rr' x t : Int) = y ∧ r = vx_J h 651 t) (fun kx h1 => kx = 12 ∧ vx_fq (fun _ _ => False) h h1 ∧ vi_no cnt' rr' x y) := by
  have p16 := C.2.2.1
  have dj := m1.1.2.2.2.2.2
  have ag2 : ∀ i, i < cnt → ∃ j, j < cnt' ∧ vr_eq 5 (rr i) (rr' j) := fun i hi => by
    obtain ⟨j, j1, j2, _⟩ := ag i hi
    exact ⟨j, j1, j2⟩
  have e30 : vx_J h 30 p = (vn_of cnt' rr' x : Nat) := by
    rw [(m1.2.2 p (by omega)).2, vm_cl_n, ← vn_of_eq (rr := rr) ec.symm dj ag2, hx]; rfl
  have bad : vi_no cnt' rr' x y → ve_rk h 6 = true ∧ ∀ h3, h3 = ve_new h 12 6 → vx_T 1 625 h3 → (12 : Nat) = 12 ∧ vx_fq (fun _ _ => False) h h3 ∧ vi_no cnt' rr' x y := fun q => ⟨rk, fun h3 e3 _ => ⟨rfl, vx_fq_new e3, q⟩⟩
  refine vg_11 (d := d + 2) hT ⟨hy, fun q => bad (fun t _ _ => by omega), fun q0 => vx_CI_mono (vc_13 hT p1 C hx hp (fun _ => e30) (fun t => absurd s1 t)) ?_⟩
  rintro r5 h5 _ ⟨E5, e5⟩ _
  rw [E5, e5]
  refine ⟨fun q => vx_CI_mono (vc_133 hT m1 V hx (by omega)) ?_, fun q => bad (fun t a b => by have := vn_ap_lt a b; omega)⟩
  rintro r16 h16 _ ⟨E16, e16⟩ _
  rw [vn_sm_eq (rr' := rr') ec.symm dj ag2] at e16
  rw [E16, e16]
  obtain ⟨i, ei⟩ : ∃ i : Nat, y = i := ⟨y.toNat, by omega⟩
  obtain ⟨j1, t, t1, t2, t3, t4⟩ := vn_tup (x := x) (i := i) m4 ec.symm T.2.2 A (by omega)
  obtain ⟨j, ej⟩ : ∃ j, vn_sm cnt' rr' x + i = j := ⟨_, rfl⟩
  rw [ej] at j1 t4
  have oj := m4.1 j j1
  rw [show (((vn_sm cnt' rr' x : Nat) : Int) + y).toNat = j by omega, m5 j j1, show ((o j : Nat) : Int).toNat = o j by omega, m1.2.1 (o j) oj]
  refine ⟨by omega, by omega, rfl, t, t1, t2, by omega, ?_⟩
  obtain ⟨t', a1, a2, a3⟩ := ag (o j) oj
  rw [a3, (T.2.1 t t1).2.2, T.2.2 t t' t1 a1 (vr_eq_trans t4 a2)]
theorem vc_10_0 (hT : vx_T 1 625 h) (hy : vx_rI y) (rk : ve_rk h 6 = true) (c13 : vx_CI d 13 [.ref 1, .int (vx_i x)] h (fun r h1 => h1 = h ∧ r = 0)) : vx_CXL (d + 1) 10 [.ref 1, .int (vx_i x), .int (vx_i y), .int (vx_i z)] h (fun _ _ => False) (fun kx h1 => kx = 12 ∧ vx_fq (fun _ _ => False) h h1) := by
  refine vg_10 hT ⟨hy, fun q => ⟨rk, fun h3 e3 _ => ⟨rfl, vx_fq_new e3⟩⟩, fun q0 => vx_CI_mono c13 ?_⟩
  rintro r5 h5 _ ⟨E5, e5⟩ _
  rw [E5, e5]
  exact ⟨fun _ => ⟨rk, fun h3 e3 _ => ⟨rfl, vx_fq_new e3⟩⟩, fun q => absurd q (by omega)⟩
theorem vc_11_0 (hT : vx_T 1 625 h) (hy : vx_rI y) (rk : ve_rk h 6 = true) (c13 : vx_CI d 13 [.ref 1, .int (vx_i x)] h (fun r h1 => h1 = h ∧ r = 0)) : vx_CX (d + 1) 11 [.ref 1, .int (vx_i x), .int (vx_i y)] h (fun _ _ => False) (fun kx h1 => kx = 12 ∧ vx_fq (fun _ _ => False) h h1) := by
  refine vg_11 hT ⟨hy, fun q => ⟨rk, fun h3 e3 _ => ⟨rfl, vx_fq_new e3⟩⟩, fun q0 => vx_CI_mono c13 ?_⟩
  rintro r5 h5 _ ⟨E5, e5⟩ _
  rw [E5, e5]
  exact ⟨fun q => absurd q (by omega), fun _ => ⟨rk, fun h3 e3 _ => ⟨rfl, vx_fq_new e3⟩⟩⟩
/-- tuple: the reference -/
theorem vc_102_0 (hT : vx_T 625 672 h) (C : vn_cs h sd Pd) (hx : vx_rI x) (out : x < 0 ∨ (Pd.1 : Int) ≤ x ∨ vx_J h 625 31 ≠ 1) : vx_CL (d + 2) 102 [.ref 625, .int (vx_i x), .int (vx_i y), .int (vx_i z)] h (fun _ h1 => vx_fr (fun a k => a = 625 ∧ k = 0) h h1 ∧ vx_J h1 625 0 = 1) := by
  have sd2 := C.1.1
  have bad : ∀ h3, h3 = vx_sJ h 625 0 1 → vx_T 625 672 h3 → vx_fr (fun a k => a = 625 ∧ k = 0) h h3 ∧ vx_J h3 625 0 = 1 := fun h3 e3 _ => ⟨vx_fr_sJ vx_fr_refl e3 ⟨rfl, rfl⟩, by rw [e3, vx_J_eq (by decide)]⟩
  refine vg_102 (d := d + 1) hT ⟨hx, fun _ => bad, fun q => ?_⟩
  rw [C.2, show ((sd : Nat) : Int).toNat = sd by omega, C.1.2.1]
  refine ⟨by omega, fun q2 => vx_CI_mono (vc_101n hT (by omega)) ?_, fun _ => bad⟩
  rintro r6 h6 _ ⟨E6, e6⟩ _
  rw [E6, e6]
  exact ⟨fun _ => bad, fun t => absurd rfl t⟩
theorem vc_103_0 (hT : vx_T 625 672 h) (C : vn_cs h sd Pd) (hx : vx_rI x) (out : x < 0 ∨ (Pd.1 : Int) ≤ x ∨ vx_J h 625 31 ≠ 1) : vx_CI (d + 2) 103 [.ref 625, .int (vx_i x), .int (vx_i y)] h (fun _ h1 => vx_fr (fun a k => a = 625 ∧ k = 0) h h1 ∧ vx_J h1 625 0 = 1) := by
  have sd2 := C.1.1
  have bad : ∀ h3, h3 = vx_sJ h 625 0 1 → vx_T 625 672 h3 → vx_fr (fun a k => a = 625 ∧ k = 0) h h3 ∧ vx_J h3 625 0 = 1 := fun h3 e3 _ => ⟨vx_fr_sJ vx_fr_refl e3 ⟨rfl, rfl⟩, by rw [e3, vx_J_eq (by decide)]⟩
  refine vg_103 (d := d + 1) hT ⟨hx, fun _ => bad, fun q => ?_⟩
  rw [C.2, show ((sd : Nat) : Int).toNat = sd by omega, C.1.2.1]
  refine ⟨by omega, fun q2 => vx_CI_mono (vc_101n hT (by omega)) ?_, fun _ => bad⟩
  rintro r6 h6 _ ⟨E6, e6⟩ _
  rw [E6, e6]
  exact ⟨fun t => absurd rfl t, fun _ => bad⟩
theorem vc_102 (hT : vx_T 625 672 h) (C : vn_cs h sd Pd) (j31 : vx_J h 625 31 = 1) (T : vn_T h Pd cnt rr cm) (c200 : cnt ≤ 200) (hp : p < Pd.1) (hx : x = p) (m4 : Pd.2.2 p ≤ 4) (hy : vx_rI y) (hz : vx_rI z) : vx_CL (d + 4) 102 [.ref 625, .int (vx_i x), .int (vx_i y), .int (vx_i z)] h (fun b h1 => vx_fr (fun a k => a = 625 ∧ k = 0) h h1 ∧ ((vx_J h1 625 0 = 1 ∧ (vi_no cnt rr x y ∨ z < 0 ∨ Pd.2.2 p ≤ z)) ∨ (vx_J h1 625 0 = 0 ∧ ∃ t, t < cnt ∧ rr t 0 = x ∧ (vn_ap cnt rr x t : Int) = y ∧ 0 ≤ z ∧ z < Pd.2.2 p ∧ b = vx_K h 652 (4 * t + z.toNat)))) := by
  have sd2 := C.1.1
  have p16 := C.1.2.2.1
  have bad : (vi_no cnt rr x y ∨ z < 0 ∨ Pd.2.2 p ≤ z) → ∀ b : Int, ∀ h3, h3 = vx_sJ h 625 0 1 → vx_T 625 672 h3 → vx_fr (fun a k => a = 625 ∧ k = 0) h h3 ∧ ((vx_J h3 625 0 = 1 ∧ (vi_no cnt rr x y ∨ z < 0 ∨ Pd.2.2 p ≤ z)) ∨ (vx_J h3 625 0 = 0 ∧ ∃ t, t < cnt ∧ rr t 0 = x ∧ (vn_ap cnt rr x t : Int) = y ∧ 0 ≤ z ∧ z < Pd.2.2 p ∧ b = vx_K h 652 (4 * t + z.toNat))) := fun q b h3 e3 _ => ⟨vx_fr_sJ vx_fr_refl e3 ⟨rfl, rfl⟩, Or.inl ⟨by rw [e3, vx_J_eq (by decide)], q⟩⟩
  refine vg_102 (d := d + 3) hT ⟨by omega, fun q => absurd q (by omega), fun q => ?_⟩
  rw [C.2, show ((sd : Nat) : Int).toNat = sd by omega, C.1.2.1]
  refine ⟨by omega, fun q2 => vx_CI_mono (vc_101 (d := d) hT j31 C T c200 (by omega) hy) ?_, fun q2 => absurd q2 (by omega)⟩
  rintro r6 h6 _ ⟨E6, c6⟩ _
  rw [E6]
  refine ⟨fun q6 => bad (Or.inl ?_) _, fun q6 => ⟨hz, fun qz => bad (Or.inr (Or.inl qz)) _, fun qz => vx_CI_mono (vc_83 hT C hp hx) ?_⟩⟩
  · rcases c6 with ⟨_, t⟩ | ⟨t, _, t2, _⟩
    · exact t
    · omega
  · rintro r12 h12 _ ⟨E12, e12⟩ _
    rw [E12, e12]
    refine ⟨fun q3 => ?_, fun q3 => bad (Or.inr (Or.inr q3)) _⟩
    rintro h14 e14 _
    rcases c6 with ⟨t, _⟩ | ⟨t, t1, t2, t3, t4⟩
    · exact absurd t q6
    · refine ⟨by omega, vx_fr_sJ vx_fr_refl e14 ⟨rfl, rfl⟩, Or.inr ⟨by rw [e14, vx_J_eq (by decide)], t, t1, t3, t4, qz, q3, ?_⟩⟩
      rw [e14, vx_K_sJ, show (4 * r6 + z).toNat = 4 * t + z.toNat by omega]
theorem vc_103 (hT : vx_T 625 672 h) (C : vn_cs h sd Pd) (j31 : vx_J h 625 31 = 1) (T : vn_T h Pd cnt rr cm) (c200 : cnt ≤ 200) (hp : p < Pd.1) (hx : x = p) (hy : vx_rI y) : vx_CI (d + 4) 103 [.ref 625, .int (vx_i x), .int (vx_i y)] h (fun b h1 => vx_fr (fun a k => a = 625 ∧ k = 0) h h1 ∧ ((vx_J h1 625 0 = 1 ∧ vi_no cnt rr x y) ∨ (vx_J h1 625 0 = 0 ∧ ∃ t, t < cnt ∧ rr t 0 = x ∧ (vn_ap cnt rr x t : Int) = y ∧ b = vx_J h 651 t))) := by
  have sd2 := C.1.1
  have p16 := C.1.2.2.1
  refine vg_103 (d := d + 3) hT ⟨by omega, fun q => absurd q (by omega), fun q => ?_⟩
  rw [C.2, show ((sd : Nat) : Int).toNat = sd by omega, C.1.2.1]
  refine ⟨by omega, fun q2 => vx_CI_mono (vc_101 (d := d) hT j31 C T c200 (by omega) hy) ?_, fun q2 => absurd q2 (by omega)⟩
  rintro r6 h6 _ ⟨E6, c6⟩ _
  rw [E6]
  refine ⟨fun q6 => ?_, fun q6 => ?_⟩
  · rintro h8 e8 _
    rcases c6 with ⟨t, _⟩ | ⟨t, t1, t2, t3, t4⟩
    · exact absurd t q6
    · refine ⟨by omega, vx_fr_sJ vx_fr_refl e8 ⟨rfl, rfl⟩, Or.inr ⟨by rw [e8, vx_J_eq (by decide)], t, t1, t3, t4, ?_⟩⟩
      rw [e8, vx_J_ne (by omega), show r6.toNat = t by omega]
  · rintro h10 e10 _
    refine ⟨vx_fr_sJ vx_fr_refl e10 ⟨rfl, rfl⟩, Or.inl ⟨by rw [e10, vx_J_eq (by decide)], ?_⟩⟩
    rcases c6 with ⟨_, t⟩ | ⟨t, _, t2, _⟩
    · exact t
    · omega
/-- tuple: class and reference -/
theorem vp_9 (hT : vx_TL L xs h) (s : vi_S h) (P : vi_P h pi sd S S' st) (M : vx_J h 1 8 = 1 → vi_M h S st) (rk : ve_rk h 6 = true) (hx : vx_rI x) (hy : vx_rI y) (hz : vx_rI z) (K : ∀ h2, vx_TL L xs h2 → vx_fq (fun a k => a = 672 ∨ (a = 625 ∧ k = 0)) h h2 → I' h2) : vl_L (d + 4) L xs I' 214 102 [.int (vx_i x), .int (vx_i y), .int (vx_i z)] h := by
  obtain ⟨p1, p2, p3, p4, p5, p6, p7, p8, p9⟩ := P
  have C := p2.1
  have p16 := C.2.2.1
  have FQ : ∀ {g h2}, vx_fq (fun a k => a = 672 ∨ (a = 625 ∧ k = 0)) h g → vx_fr (fun a k => a = 625 ∧ k = 0) g h2 → vx_fq (fun a k => a = 672 ∨ (a = 625 ∧ k = 0)) h h2 := fun F F2 => vx_fq_l F (vx_fr_mono F2 (fun a k q => Or.inr q))
  have CS : ∀ g, vx_fq (fun a k => a = 672 ∨ (a = 625 ∧ k = 0)) h g → vn_cs g sd S.1 := fun g F => by
    have := (vn_pc_fq p8 F (fun a k q => by omega)).1
    rw [p9.1] at this
    exact this
  have j31 : ∀ g, vx_fq (fun a k => a = 672 ∨ (a = 625 ∧ k = 0)) h g → vx_J g 625 31 = vx_J h 1 8 := fun g F => (vx_fq_J F (by omega)).trans s.2.1
  -- neither has such a row
  have NONE : vx_CI (d + 2) 13 [.ref 1, .int (vx_i x)] h (fun r h1 => h1 = h ∧ r = 0) → (x < 0 ∨ (S.1.1 : Int) ≤ x ∨ vx_J h 1 8 ≠ 1) → vl_L (d + 4) L xs I' 214 102 [.int (vx_i x), .int (vx_i y), .int (vx_i z)] h := by
    intro c13 out
    refine vg_214 (d := d + 3) hT.1 (vx_CXL_mono (vc_10_0 (d := d + 2) (vx_TLC hT) hy rk c13) (fun r h1 _ q => absurd q (fun t => t)) ?_)
    rintro kx h1 ⟨ek, F1⟩ _
    have F1' := vx_fq_mono (S2 := fun a k => a = 672 ∨ (a = 625 ∧ k = 0)) F1 (fun a k q => absurd q (fun t => t))
    refine ⟨ek, fun T1 => vx_CL_mono (vc_102_0 (d := d + 2) (vx_TLT T1) (CS h1 F1') hx (by rw [j31 h1 F1']; exact out)) ?_⟩
    rintro b h2 _ ⟨F2, e2⟩ T2
    exact ⟨e2, fun t => absurd t (by decide), K h2 T2 (FQ F1' F2)⟩
  by_cases out : x < 0 ∨ (S.1.1 : Int) ≤ x
  · exact NONE (vc_13n (vx_TLC hT) p1 C hx out) (by omega)
  obtain ⟨p, hp⟩ : ∃ p : Nat, x = p := ⟨x.toNat, by omega⟩
  have pl : p < S.1.1 := by omega
  by_cases s1 : vx_J h 1 8 = 1
  · obtain ⟨cnt, rr, cm, o, cnt', rr', cm', m0, m2, m3, m4, m5, m6, m7, m8⟩ := M s1
    have m1 := m0.resolve_right (fun t => by have := t.1; omega)
    have ag := vm_agree m3 m1.1.2.2.2.2.2 m8 m6.2.2
    have ag2 : ∀ i, i < cnt → ∃ j, j < cnt' ∧ vr_eq 5 (rr i) (rr' j) := fun i hi => by
      obtain ⟨j, j1, j2, _⟩ := ag.2 i hi
      exact ⟨j, j1, j2⟩
    have A := vi_pl (rr' := rr') m4 (fun i hi => by
      obtain ⟨j, j1, j2, _⟩ := (vm_agree m8 m6.2.2 m3 m1.1.2.2.2.2.2).2 i hi
      exact ⟨j, j1, j2⟩)
    have REF : ∀ g, vx_TL L xs g → vx_fq (fun a k => a = 672 ∨ (a = 625 ∧ k = 0)) h g → ∀ Q : Int → ve_H → Prop, (∀ b h2, vx_fr (fun a k => a = 625 ∧ k = 0) g h2 ∧ ((vx_J h2 625 0 = 1 ∧ (vi_no cnt' rr' x y ∨ z < 0 ∨ S.1.2.2 p ≤ z)) ∨ (vx_J h2 625 0 = 0 ∧ ∃ t, t < cnt' ∧ rr' t 0 = x ∧ (vn_ap cnt' rr' x t : Int) = y ∧ 0 ≤ z ∧ z < S.1.2.2 p ∧ b = vx_K g 652 (4 * t + z.toNat))) → Q b h2) → vx_CL (d + 4) 102 [.ref 625, .int (vx_i x), .int (vx_i y), .int (vx_i z)] g Q := by
      intro g T F Q hQ
      have F' := vx_fq_h F
      have m6' : vn_T (vx_hn h g) S.1 cnt' rr' cm' := m6
      exact vx_CL_mono (vc_102 (d := d) (vx_TLT T) (CS g F) ((j31 g F).trans s1) (vn_T_fr m6' F' (fun a k q => by omega)) m7 pl hp (C.2.2.2 p pl).2.2.2 hy hz) (fun b h2 _ q => hQ b h2 q)
    refine vg_214 (d := d + 3) hT.1 (vx_CXL_mono (vc_10 (d := d) (vx_TLC hT) p1 C s1 m1 m3.2.1 m2 m4 m5 m6 ag.1 ag2 A hp pl hy hz rk) ?_ ?_)
    · rintro r h1 hr ⟨E1, t, t1, t2, t3, t4, t5, t6⟩ _ g eg _ Tg
      rw [E1] at eg
      have Fg : vx_fr (fun a k => a = 672 ∨ (a = 625 ∧ k = 0)) h g := vx_fr_sK vx_fr_refl eg (Or.inl rfl)
      refine REF g Tg (vx_fq_fr Fg) _ ?_
      rintro b h2 ⟨F2, q⟩ T2
      rcases q with ⟨_, q⟩ | ⟨j0, u, u1, u2, u3, _, _, u6⟩
      · exfalso
        rcases q with q | q | q
        · exact q t t1 t2 t3
        · omega
        · omega
      · have et := vn_ap_inj m6.2.2 u1 t1 u2 t2 (by omega)
        refine ⟨j0, fun _ => ?_, K h2 T2 (FQ (vx_fq_fr Fg) F2)⟩
        rw [vx_fr_K F2 (by omega), eg, vx_K_eq hr, u6, et, vx_fr_K Fg (by omega), t6]
    · rintro kx h1 ⟨ek, F1, no⟩ _
      have F1' := vx_fq_mono (S2 := fun a k => a = 672 ∨ (a = 625 ∧ k = 0)) F1 (fun a k q => absurd q (fun t => t))
      refine ⟨ek, fun T1 => REF h1 T1 F1' _ ?_⟩
      rintro b h2 ⟨F2, q⟩ T2
      rcases q with ⟨j0, _⟩ | ⟨_, u, u1, u2, u3, u4, u5, _⟩
      · exact ⟨j0, fun t => absurd t (by decide), K h2 T2 (FQ F1' F2)⟩
      · exfalso
        rcases no with q | q | q
        · exact q u u1 u2 u3
        · omega
        · omega
  · exact NONE (vc_13 (vx_TLC hT) p1 C hp pl (fun t => absurd t s1) (fun _ => rfl)) (Or.inr (Or.inr s1))
/-- round: class and reference -/
theorem vp_10 (hT : vx_TL L xs h) (s : vi_S h) (P : vi_P h pi sd S S' st) (M : vx_J h 1 8 = 1 → vi_M h S st) (rk : ve_rk h 6 = true) (hx : vx_rI x) (hy : vx_rI y) (K : ∀ h2, vx_TL L xs h2 → vx_fq (fun a k => a = 672 ∨ (a = 625 ∧ k = 0)) h h2 → I' h2) : vl_X (d + 4) L xs I' 215 103 [.int (vx_i x), .int (vx_i y)] h := by
  obtain ⟨p1, p2, p3, p4, p5, p6, p7, p8, p9⟩ := P
  have C := p2.1
  have p16 := C.2.2.1
  have FQ : ∀ {g h2}, vx_fq (fun a k => a = 672 ∨ (a = 625 ∧ k = 0)) h g → vx_fr (fun a k => a = 625 ∧ k = 0) g h2 → vx_fq (fun a k => a = 672 ∨ (a = 625 ∧ k = 0)) h h2 := fun F F2 => vx_fq_l F (vx_fr_mono F2 (fun a k q => Or.inr q))
  have CS : ∀ g, vx_fq (fun a k => a = 672 ∨ (a = 625 ∧ k = 0)) h g → vn_cs g sd S.1 := fun g F => by
    have := (vn_pc_fq p8 F (fun a k q => by omega)).1
    rw [p9.1] at this
    exact this
  have j31 : ∀ g, vx_fq (fun a k => a = 672 ∨ (a = 625 ∧ k = 0)) h g → vx_J g 625 31 = vx_J h 1 8 := fun g F => (vx_fq_J F (by omega)).trans s.2.1
  have NONE : vx_CI (d + 2) 13 [.ref 1, .int (vx_i x)] h (fun r h1 => h1 = h ∧ r = 0) → (x < 0 ∨ (S.1.1 : Int) ≤ x ∨ vx_J h 1 8 ≠ 1) → vl_X (d + 4) L xs I' 215 103 [.int (vx_i x), .int (vx_i y)] h := by
    intro c13 out
    refine vg_215 (d := d + 3) hT.1 (vx_CX_mono (vc_11_0 (d := d + 2) (vx_TLC hT) hy rk c13) (fun r h1 _ q => absurd q (fun t => t)) ?_)
    rintro kx h1 ⟨ek, F1⟩ _
    have F1' := vx_fq_mono (S2 := fun a k => a = 672 ∨ (a = 625 ∧ k = 0)) F1 (fun a k q => absurd q (fun t => t))
    refine ⟨ek, fun T1 => vx_CI_mono (vc_103_0 (d := d + 2) (vx_TLT T1) (CS h1 F1') hx (by rw [j31 h1 F1']; exact out)) ?_⟩
    rintro b h2 _ ⟨F2, e2⟩ T2
    exact ⟨e2, fun t => absurd t (by decide), K h2 T2 (FQ F1' F2)⟩
  by_cases out : x < 0 ∨ (S.1.1 : Int) ≤ x
  · exact NONE (vc_13n (vx_TLC hT) p1 C hx out) (by omega)
  obtain ⟨p, hp⟩ : ∃ p : Nat, x = p := ⟨x.toNat, by omega⟩
  have pl : p < S.1.1 := by omega
  by_cases s1 : vx_J h 1 8 = 1
  · obtain ⟨cnt, rr, cm, o, cnt', rr', cm', m0, m2, m3, m4, m5, m6, m7, m8⟩ := M s1
    have m1 := m0.resolve_right (fun t => by have := t.1; omega)
    have ag := vm_agree m3 m1.1.2.2.2.2.2 m8 m6.2.2
    have A := vi_pl (rr' := rr') m4 (fun i hi => by
      obtain ⟨j, j1, j2, _⟩ := (vm_agree m8 m6.2.2 m3 m1.1.2.2.2.2.2).2 i hi
      exact ⟨j, j1, j2⟩)
    have REF : ∀ g, vx_TL L xs g → vx_fq (fun a k => a = 672 ∨ (a = 625 ∧ k = 0)) h g → ∀ Q : Int → ve_H → Prop, (∀ b h2, vx_fr (fun a k => a = 625 ∧ k = 0) g h2 ∧ ((vx_J h2 625 0 = 1 ∧ vi_no cnt' rr' x y) ∨ (vx_J h2 625 0 = 0 ∧ ∃ t, t < cnt' ∧ rr' t 0 = x ∧ (vn_ap cnt' rr' x t : Int) = y ∧ b = vx_J g 651 t)) → Q b h2) → vx_CI (d + 4) 103 [.ref 625, .int (vx_i x), .int (vx_i y)] g Q := by
      intro g T F Q hQ
      have F' := vx_fq_h F
      have m6' : vn_T (vx_hn h g) S.1 cnt' rr' cm' := m6
      exact vx_CI_mono (vc_103 (d := d) (vx_TLT T) (CS g F) ((j31 g F).trans s1) (vn_T_fr m6' F' (fun a k q => by omega)) m7 pl hp hy) (fun b h2 _ q => hQ b h2 q)
    refine vg_215 (d := d + 3) hT.1 (vx_CX_mono (vc_11 (d := d) (vx_TLC hT) p1 C s1 m1 m3.2.1 m2 m4 m5 m6 ag.1 ag.2 A hp pl hy rk) ?_ ?_)
    · rintro r h1 hr ⟨E1, t, t1, t2, t3, t6⟩ _ g eg _ Tg
      rw [E1] at eg
      have Fg : vx_fr (fun a k => a = 672 ∨ (a = 625 ∧ k = 0)) h g := vx_fr_sK vx_fr_refl eg (Or.inl rfl)
      refine REF g Tg (vx_fq_fr Fg) _ ?_
      rintro b h2 ⟨F2, q⟩ T2
      rcases q with ⟨_, q⟩ | ⟨j0, u, u1, u2, u3, u6⟩
      · exact absurd t3 (q t t1 t2)
      · have et := vn_ap_inj m6.2.2 u1 t1 u2 t2 (by omega)
        refine ⟨j0, fun _ => ?_, K h2 T2 (FQ (vx_fq_fr Fg) F2)⟩
        rw [vx_fr_K F2 (by omega), eg, vx_K_eq (show vx_rL r by omega), u6, et, vx_fr_J Fg (by omega), t6]
    · rintro kx h1 ⟨ek, F1, no⟩ _
      have F1' := vx_fq_mono (S2 := fun a k => a = 672 ∨ (a = 625 ∧ k = 0)) F1 (fun a k q => absurd q (fun t => t))
      refine ⟨ek, fun T1 => REF h1 T1 F1' _ ?_⟩
      rintro b h2 ⟨F2, q⟩ T2
      rcases q with ⟨j0, _⟩ | ⟨_, u, u1, u2, u3, _⟩
      · exact ⟨j0, fun t => absurd t (by decide), K h2 T2 (FQ F1' F2)⟩
      · exact absurd u3 (no u u1 u2)
  · exact NONE (vc_13 (vx_TLC hT) p1 C hp pl (fun t => absurd t s1) (fun _ => rfl)) (Or.inr (Or.inr s1))
end
