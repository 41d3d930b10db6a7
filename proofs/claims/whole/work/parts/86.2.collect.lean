/-! A question is answered: the class -/
/-- what answers a question over the rows D -/
def vm_aS (D : vm_S) (R : vu_R) (ac : Nat) (ar : Nat → Nat → Int) : Prop := (∀ i, i < ac → ∃ u, vm_sat D R.2.2.2.2 u ∧ (∀ v, v < R.2.2.2.1 → vz_va (u v)) ∧ vr_eq 8 (ar i) (vm_gl R u)) ∧ ∀ u, vm_sat D R.2.2.2.2 u → ∃ i, i < ac ∧ vr_eq 8 (ar i) (vm_gl R u)
/-- too many answers -/
def vm_aB (D : vm_S) (R : vu_R) : Prop := ∃ ar : Nat → Nat → Int, (∀ i, i < 201 → ∃ u, vm_sat D R.2.2.2.2 u ∧ (∀ v, v < R.2.2.2.1 → vz_va (u v)) ∧ vr_eq 8 (ar i) (vm_gl R u)) ∧ ∀ i j, i < 201 → j < 201 → vr_eq 8 (ar i) (ar j) → i = j
/-- how a question ends -/
def vm_aE (a cnt : Nat) (rr : Nat → Nat → Int) (R : vu_R) (h : ve_H) (r : Int) (h1 : ve_H) : Prop := vx_fr (vm_Wk a) h h1 ∧ ((r = 1 ∧ ∃ ac ar o, vr_P a 8 ac ar h1 ∧ ac ≤ 200 ∧ vm_aS (fun f => ∃ i, i < cnt ∧ vr_eq 5 (rr i) f) R ac ar ∧ vr_so 8 ar o ac ∧ ∀ j, j < ac → vx_J h1 (a + 2) j = o j) ∨ (r = 0 ∧ vm_aB (fun f => ∃ i, i < cnt ∧ vr_eq 5 (rr i) f) R ∧ vx_J h1 a 0 = (8 : Nat)))
section
variable {d pi a cnt n : Nat} {Pd : vy_V} {st : Nat → Nat} {rr : Nat → Nat → Int} {cm : Nat → Int} {A : Nat → Int} {L : vy_L} {h h1 : ve_H}
/-- the engine takes a question -/
theorem vm_cx_q {σ : Nat → Nat} {b : Nat → Int} {sd : Int} {R : vu_R} {g : ve_H} (cr : vu_cr h 8 R) (n8 : R.2.2.2.1 ≤ 8) (z1 : vz_st h 8 R.2.2.2.2 R.2.2.2.2.1 σ b) (z2 : vx_J h 8 15 = sd) (opi : vx_o 1 625 5 pi) (c2 : vs_cs h pi st) (ta2 : a = 617 ∨ a = 621) (F : vx_fr (vm_Wk a) h g) (r6 : ve_R g 21 6 = some pi) (r7 : ve_R g 21 7 = some 8) (r8 : ve_R g 21 8 = some a) (c4 : vx_J g 21 9 = -1) (c11 : vx_J g 21 11 = -1) : vm_cx g 8 pi a R σ b st (-1) (vx_J g 21 10) (-1) sd := by
  have oo := vu_o8
  have too := vm_o oo
  have ppo := (vx_po opi).2.2.2.2.2.2
  have m : ∀ x k, 8 ≤ x → x ≤ 16 → ¬ vm_Wk a x k := fun x k q1 q2 => by omega
  obtain ⟨k1, k2, k3, k4, k5, _⟩ := cr
  exact ⟨⟨⟨r7, oo, vy_cl_fr k5 F ⟨m 8 6 (by omega) (by omega), fun k => ⟨m _ k (by omega) (by omega), m _ k (by omega) (by omega), m _ k (by omega) (by omega), m _ k (by omega) (by omega)⟩⟩⟩, (vx_fr_J F (m 8 0 (by omega) (by omega))).trans k1, fun k hk => (vx_fr_K F (m _ k (by omega) (by omega))).trans (k2 k hk), vy_co_fr k3 F ⟨m 8 2 (by omega) (by omega), m 8 3 (by omega) (by omega), m 8 4 (by omega) (by omega)⟩, (vx_fr_J F (m 8 5 (by omega) (by omega))).trans k4, n8⟩, vz_st_fr z1 F (fun k => ⟨m _ k (by omega) (by omega), m _ k (by omega) (by omega), m _ k (by omega) (by omega)⟩), (vx_fr_J F (m 8 15 (by omega) (by omega))).trans z2, r6, opi, fun q hq => (vx_fr_J F (by omega)).trans (c2 q hq), c4, rfl, c11, r8⟩
theorem vc_108 (P16 : Pd.1 ≤ 16) (ta : vm_tg a 8) (ta2 : a = 617 ∨ a = 621) (W : vu_wQ Pd n L) (opi : vx_o 1 625 5 pi) (c2 : vs_cs h pi st) (cr : vu_cr h 8 (-1, A, vu_O0, n, L)) (hA : vz_aw n false A) (hT : vx_T 1 625 h) (M : vm_M h cnt rr cm) (hv : ∀ i, i < cnt → vm_vr (rr i)) (hw : vx_J h a 0 = (8 : Nat)) : vx_CI (d + 11) 108 [.ref 21, .ref pi, .ref 8, .ref a] h (vm_aE a cnt rr (-1, A, vu_O0, n, L) h) := by
  obtain ⟨R, eR⟩ : ∃ R : vu_R, R = (-1, A, vu_O0, n, L) := ⟨_, rfl⟩
  have eO : R.2.2.1.1 = -1 := by rw [eR]; rfl
  have e1 : R.1 = -1 := by rw [eR]
  have en : R.2.2.2.1 = n := by rw [eR]
  have eL : R.2.2.2.2 = L := by rw [eR]
  have eA : R.2.1 = A := by rw [eR]
  rw [← eR] at cr ⊢
  obtain ⟨w1, w2, w3, w4, w5⟩ := W
  have Wf : vz_wf R.2.2.1.1 R.2.2.2.1 R.2.2.2.2 := by rw [eO, en, eL]; exact w1
  have hA' : vz_aw R.2.2.2.1 false R.2.1 := by rw [en, eA]; exact hA
  have sl : vm_sl R.2.2.1.1 R.2.2.2.1 R.2.2.2.2 := by
    refine ⟨Wf, fun j hj => ?_⟩
    rw [eL] at hj ⊢
    have t := w5 j hj
    refine ⟨t.1, t.2.2, fun k => ?_⟩
    obtain ⟨p, _, p1, p2, _⟩ := t.2.1 k
    exact ⟨p, p1, by omega⟩
  obtain ⟨σ, b, sd, z1, z2, z3, _, z5⟩ := vm_plan cr Wf (by rw [en, eL]; exact w4) hA'
  have t2 := ta.2.2
  refine vg_108 opi vu_o8 ta.1.1 hT (fun g1 x1 _ g2 x2 _ g3 x3 _ g4 x4 _ g5 x5 _ g6 x6 hT6 => ?_)
  have F6 : vx_fr (fun b k => b = 21 ∧ 6 ≤ k) h g6 := vx_fr_sJ (vx_fr_sJ (vx_fr_sJ (vx_fr_sR (vx_fr_sR (vx_fr_sR vx_fr_refl x1 (by omega)) x2 (by omega)) x3 (by omega)) x4 (by omega)) x5 (by omega)) x6 (by omega)
  have r6 : ve_R g6 21 6 = some pi := by
    rw [x6]; show ve_R g5 21 6 = _
    rw [x5]; show ve_R g4 21 6 = _
    rw [x4]; show ve_R g3 21 6 = _
    rw [x3, ve_R_sR, if_neg (by omega), x2, ve_R_sR, if_neg (by omega), x1, ve_R_sR, if_pos ⟨rfl, rfl⟩]
  have r7 : ve_R g6 21 7 = some 8 := by
    rw [x6]; show ve_R g5 21 7 = _
    rw [x5]; show ve_R g4 21 7 = _
    rw [x4]; show ve_R g3 21 7 = _
    rw [x3, ve_R_sR, if_neg (by omega), x2, ve_R_sR, if_pos ⟨rfl, rfl⟩]
  have r8 : ve_R g6 21 8 = some a := by
    rw [x6]; show ve_R g5 21 8 = _
    rw [x5]; show ve_R g4 21 8 = _
    rw [x4]; show ve_R g3 21 8 = _
    rw [x3, ve_R_sR, if_pos ⟨rfl, rfl⟩]
  have j9 : vx_J g6 21 9 = -1 := by rw [x6, vx_J_ne (by omega), x5, vx_J_ne (by omega), x4, vx_J_eq (by decide)]
  have j11 : vx_J g6 21 11 = -1 := by rw [x6, vx_J_ne (by omega), x5, vx_J_eq (by decide)]
  have j12 : vx_J g6 21 12 = 0 := by rw [x6, vx_J_eq (by decide)]
  refine vx_CV_mono (vc_172 (d := d + 9) (rr := rr) hT6 ta.1 ((vx_fr_J F6 (by omega)).trans hw)) ?_
  rintro g7 ⟨F7, P7⟩ hT7
  have W7 : vx_fr (vm_Wk a) h g7 := vx_fr_trans (vx_fr_mono F6 (fun b k q => Or.inl q)) (vx_fr_mono F7 (fun b k q => by omega))
  have C7 := vm_cx_q (a := a) (st := st) cr (by rw [en]; exact w2) z1 z2 opi c2 ta2 W7 ((vx_fr_R F7 (by omega)).trans r6) ((vx_fr_R F7 (by omega)).trans r7) ((vx_fr_R F7 (by omega)).trans r8) ((vx_fr_J F7 (by omega)).trans j9) ((vx_fr_J F7 (by omega)).trans j11)
  have M7 : vm_M g7 cnt rr cm := vm_M_fr M W7 (fun b k q => by omega)
  have hs := vm_surj C7.2.1
  have l6 := C7.1.1.2.2.2.1
  have H := vm_HC (h0 := g7) (o := 8) (pi := pi) (st := st) (tn := vx_J g7 21 10) (fr := -1) (c0 := cnt) (r0 := rr) (m0 := cm) ta ta2 e1 hA' hv hs.1 (z5 eO)
  have X0 : vm_XC g7 a cnt rr cm R [] g7 := ⟨vx_fr_refl, M7, 0, rr, P7, fun i hi => absurd hi (by omega), by omega, fun i hi => absurd hi (by omega), fun f hf => by
    rcases hf with t | ⟨u, t, _⟩
    · exact absurd t (fun t => t)
    · exact absurd t List.not_mem_nil⟩
  have b0 : ∀ i, ¬ vb (b 0) i = true := fun i hi => by
    obtain ⟨e', t, _⟩ := ((C7.2.1.2.1 0 (Nat.zero_le _)).2 i).mp hi
    omega
  have go := vm_walk (d := d + (6 - R.2.2.2.2.1)) H sl (fun p hp => by omega) z3 R.2.2.2.2.1 0 g7 [] 0 (by omega) rfl hT7 C7 (Or.inl ⟨(vx_fr_J F7 (by omega)).trans j12, X0⟩) (fun i hi => absurd hi (b0 i))
  rw [show d + (6 - R.2.2.2.2.1) + R.2.2.2.2.1 + 3 + 1 = d + 10 by omega] at go
  refine vx_CV_mono go ?_
  rintro g8 ⟨_, _, _, q8⟩ hT8
  have sat : ∀ u, vm_so R.2.2.2.2 σ (vm_PA cnt rr cm st (-1) (vx_J g7 21 10) (-1) R.2.2.2.2 σ) (vm_NA cnt rr) 0 u ↔ vm_sat (fun f => ∃ i, i < cnt ∧ vr_eq 5 (rr i) f) R.2.2.2.2 u := fun u => ⟨fun q => vm_so_sat (fun f => Iff.rfl) hs.2 q, fun q => vm_sat_so (fun f => Iff.rfl) hs.1 (fun j hj k => by omega) q⟩
  -- in order, and the end
  have srt : ∀ {ac : Nat} {ar : Nat → Nat → Int}, vx_fr (vm_Wk a) g7 g8 → vr_P a 8 ac ar g8 → vm_id g8 (a + 2) ac → (vx_J g8 21 12 = 0 → ac ≤ 200 ∧ vm_aS (fun f => ∃ i, i < cnt ∧ vr_eq 5 (rr i) f) R ac ar) → (vx_J g8 21 12 ≠ 0 → vm_aB (fun f => ∃ i, i < cnt ∧ vr_eq 5 (rr i) f) R) → vx_CV (d + 10) 178 [.ref a] g8 (fun h9 => vx_T 1 625 h9 → (((vx_J h9 21 12) ≠ 0 → vm_aE a cnt rr R h 0 h9) ∧ ((vx_J h9 21 12) = 0 → vm_aE a cnt rr R h 1 h9))) := by
    intro ac ar F8 P8 I8 q1 q2
    refine vx_CV_mono (vc_178 (d := d + 9) hT8 ta.1 P8 (fun j hj => by rw [t2.2.2]; exact I8 j hj)) ?_
    rintro h9 ⟨F9, o, so, oj⟩ _
    have j9' : vx_J h9 21 12 = vx_J g8 21 12 := vx_fr_J F9 (by omega)
    have FF : vx_fr (vm_Wk a) h h9 := vx_fr_trans W7 (vx_fr_trans F8 (vx_fr_mono F9 (fun b k q => by omega)))
    have P9 := vr_P_o ta.1 P8 F9
    rw [j9']
    exact ⟨fun q => ⟨FF, Or.inr ⟨rfl, q2 q, P9.1⟩⟩, fun q => ⟨FF, Or.inl ⟨rfl, ac, ar, o, P9, (q1 q).1, (q1 q).2, so, fun j hj => by rw [← t2.2.2]; exact oj j hj⟩⟩⟩
  have ag0 : ∀ u, vm_ag (b 0) (vm_hv g7) u := fun u i hi => absurd hi (b0 i)
  rcases q8 with ⟨_, j8, l', l1, l2, _, F8, _, ac, ar, P8, I8, hc, se⟩ | ⟨j8, l', l1, F8, _, ar, P8, I8, se⟩
  · refine srt F8 P8 I8 (fun _ => ⟨hc, fun i hi => ?_, fun u hu => ?_⟩) (fun t => absurd j8 t)
    · rcases se.1 i hi with t | ⟨u, u1, u2⟩
      · exact absurd t (fun t => t)
      · exact ⟨u, (sat u).mp (l1 u u1).2.1, (l1 u u1).2.2, u2⟩
    · rcases l2 u (ag0 u) ((sat u).mpr hu) with t | ⟨v, v1, v2⟩
      · exact absurd t (fun t => t)
      · obtain ⟨i, i1, i2⟩ := se.2 (vm_gl R u) (Or.inr ⟨v, v1, v2⟩)
        exact ⟨i, i1, i2⟩
  · refine srt F8 P8 I8 (fun t => absurd t j8) (fun _ => ⟨ar, fun i hi => ?_, P8.2.2.2.2.2⟩)
    obtain ⟨u, u1, u2⟩ := se i hi
    exact ⟨u, (sat u).mp (l1 u u1).2.1, (l1 u u1).2.2, u2⟩
end
