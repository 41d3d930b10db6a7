/-! ask: the reference -/
/-- what is done behind the reading -/
def vd_tl (d : Nat) (P : Int → ve_H → Prop) (h : ve_H) : Prop := (((vx_J h 625 3) = 0 → (((vx_J h 625 31) ≠ 1 → vx_CI d 20 [.ref 625, .int (vx_i 2)] h (fun r9 h9 => vx_T 625 672 h9 → P r9 h9)) ∧ ((vx_J h 625 31) = 1 → (((vx_J h 625 37) ≠ 500 → (∀ h11, h11 = vx_sJ h 625 78 0 → vx_T 625 672 h11 → (∀ h12, h12 = vx_sJ h11 625 68 0 → vx_T 625 672 h12 → (∀ h13, h13 = vx_sJ h12 625 65 (vx_J h12 625 32) → vx_T 625 672 h13 → (∀ h14, h14 = vx_sJ h13 625 66 2 → vx_T 625 672 h14 → vx_CV d 79 [.ref 625, .int (vx_i 60)] h14 (fun h15 => vx_T 625 672 h15 → (((vx_J h15 625 68) = 0 → (∀ h17, h17 = vx_sJ h15 625 0 0 → vx_T 625 672 h17 → (∀ h18, h18 = vx_sJ h17 625 37 ((vx_J h17 625 37) + 1) → vx_T 625 672 h18 → (∀ h19, h19 = vx_sJ h18 625 38 (vx_J h18 625 78) → vx_T 625 672 h19 → (∀ h20, h20 = vx_sJ h19 625 39 (vx_J h19 642 60) → vx_T 625 672 h20 → vx_W (d + 1) 94 178 [some (.ref 625), some (.int (vx_i 0)), none, none] [] h20 (vx_RI P)))))) ∧ ((vx_J h15 625 68) ≠ 0 → vx_CI d 20 [.ref 625, .int (vx_i 2)] h15 (fun r21 h21 => vx_T 625 672 h21 → P r21 h21))))))))) ∧ ((vx_J h 625 37) = 500 → vx_CI d 20 [.ref 625, .int (vx_i 2)] h (fun r22 h22 => vx_T 625 672 h22 → P r22 h22)))))) ∧ ((vx_J h 625 3) ≠ 0 → vx_CI d 20 [.ref 625, .int (vx_i 1)] h (fun r23 h23 => vx_T 625 672 h23 → P r23 h23)))
/-- a question -/
def vn_R (n : Nat) (L : vy_L) : vu_R := (-1, fun _ => 0, vu_O0, n, L)
abbrev vn_Wb (a k : Nat) : Prop := (a = 625 ∧ (k = 0 ∨ k = 42 ∨ k = 65 ∨ k = 66 ∨ k = 68 ∨ k = 69 ∨ k = 70 ∨ k = 78)) ∨ a = 654 ∨ (664 ≤ a ∧ a ≤ 668)
/-- how a question ends that was read -/
def vn_qE (n : Nat) (L : vy_L) (F : vy_F) (cnt : Nat) (rr : Nat → Nat → Int) (h : ve_H) (r : Int) (h1 : ve_H) : Prop := vy_rf h1 F ∧ ((vx_fr vn_Wb h h1 ∧ vx_J h1 625 0 = 2 ∧ (vx_J h 625 31 ≠ 1 ∨ vx_J h 625 37 = 500 ∨ vm_aB (vn_D cnt rr) (vn_R n L))) ∨ (vx_fr (fun a k => vn_Wb a k ∨ (a = 625 ∧ (k = 37 ∨ k = 38 ∨ k = 39)) ∨ a = 653) h h1 ∧ vx_J h1 625 0 = 0 ∧ vx_J h 625 31 = 1 ∧ vx_J h 625 37 ≠ 500 ∧ vx_J h1 625 37 = vx_J h 625 37 + 1 ∧ vx_J h1 625 39 = n ∧ ∃ ac ar, r = (ac : Nat) ∧ vx_J h1 625 38 = (ac : Nat) ∧ ac ≤ 200 ∧ vm_aS (vn_D cnt rr) (vn_R n L) ac ar ∧ vn_dj ac ar ∧ ∀ i, i < ac → ∀ v, v < n → vy_vr (ar i v) (vx_K h1 653 (8 * vn_ah n ac ar i + v))))
section
variable {d n cnt : Nat} {h h1 : ve_H} {Pd : vy_V} {L : vy_L} {F : vy_F} {rr : Nat → Nat → Int} {cm : Nat → Int} {P : Int → ve_H → Prop}
theorem vd_tl_bad (hT : vx_T 625 672 h) (j3 : vx_J h 625 3 ≠ 0) (K : ∀ h1, vx_fr (fun a k => a = 625 ∧ k = 0) h h1 → vx_J h1 625 0 = 1 → P 0 h1) : vd_tl d P h := by
  refine ⟨fun q => absurd q j3, fun _ => vx_CI_mono (vc_20 hT (by decide)) ?_⟩
  rintro r h1 _ ⟨rfl, F1, j1⟩ _
  exact K h1 F1 j1
theorem vd_tl_ok (hT : vx_T 625 672 h) (W : vu_wQ Pd n L) (na : vz_na L L.1 ≤ 3) (rl : vy_rl h 60 Pd (0, 0) L) (h642 : vx_J h 642 60 = n) (rf : vy_rf h F) (F0 : F.1 = 0) (T : vx_J h 625 31 = 1 → vn_T h Pd cnt rr cm ∧ cnt ≤ 200) (m500 : 0 ≤ vx_J h 625 37 ∧ vx_J h 625 37 ≤ 500) (K : ∀ r h1, vn_qE n L F cnt rr h r h1 → P r h1) : vd_tl (d + 9) P h := by
  have j3 : vx_J h 625 3 = 0 := rf.1.trans F0
  obtain ⟨w1, w2, w3, w4, w5⟩ := W
  have no2 : ∀ (why : vx_J h 625 31 ≠ 1 ∨ vx_J h 625 37 = 500 ∨ vm_aB (vn_D cnt rr) (vn_R n L)) (g : ve_H), vx_T 625 672 g → vx_fr vn_Wb h g → vx_CI (d + 9) 20 [.ref 625, .int (vx_i 2)] g (fun r9 h9 => vx_T 625 672 h9 → P r9 h9) := by
    intro why g hTg Fg
    refine vx_CI_mono (vc_20 hTg (by decide)) ?_
    rintro r h1 _ ⟨rfl, F1, j1⟩ _
    have FF : vx_fr vn_Wb h h1 := vx_fr_trans Fg (vx_fr_mono F1 (fun a k q => by omega))
    exact K 0 h1 ⟨⟨(vx_fr_J FF (by omega)).trans rf.1, (vx_fr_J FF (by omega)).trans rf.2⟩, Or.inl ⟨FF, j1, why⟩⟩
  refine ⟨fun _ => ⟨fun q => no2 (Or.inl q) h hT vx_fr_refl, fun q31 => ⟨fun q37 => ?_, fun q => no2 (Or.inr (Or.inl q)) h hT vx_fr_refl⟩⟩, fun q => absurd j3 q⟩
  obtain ⟨T, c200⟩ := T q31
  rintro h11 e11 _ h12 e12 _ h13 e13 _ h14 e14 hT14
  have e32 : vx_J h12 625 32 = cnt := by rw [e12, vx_J_ne (by omega), e11, vx_J_ne (by omega)]; exact T.1
  rw [e32] at e13
  have F14 : vx_fr (fun a k => a = 625 ∧ (k = 78 ∨ k = 68 ∨ k = 65 ∨ k = 66)) h h14 := vx_fr_sJ (vx_fr_sJ (vx_fr_sJ (vx_fr_sJ vx_fr_refl e11 (by omega)) e12 (by omega)) e13 (by omega)) e14 (by omega)
  have k65 : vx_J h14 625 65 = cnt := by rw [e14, vx_J_ne (by omega), e13, vx_J_eq (by omega)]
  have k66 : vx_J h14 625 66 = 2 := by rw [e14, vx_J_eq (by decide)]
  have k68 : vx_J h14 625 68 = 0 := by rw [e14, vx_J_ne (by omega), e13, vx_J_ne (by omega), e12, vx_J_eq (by decide)]
  have k78 : vx_J h14 625 78 = 0 := by rw [e14, vx_J_ne (by omega), e13, vx_J_ne (by omega), e12, vx_J_ne (by omega), e11, vx_J_eq (by decide)]
  have T14 : vn_T h14 Pd cnt rr cm := vn_T_fr T F14 (fun a k q => by omega)
  have db : vn_db h14 Pd cnt rr := ⟨k65, by omega, fun i hi => ⟨(T14.2.1 i hi).1, (T14.2.1 i hi).2.1⟩⟩
  have rl14 : vy_rl h14 60 Pd (0, 0) L := vy_rl_fr rl F14 ⟨by omega, fun l _ _ => ⟨by omega, by omega, by omega, by omega⟩, fun k _ _ => ⟨by omega, by omega⟩⟩
  have h642' : vx_J h14 642 60 = n := (vx_fr_J F14 (by omega)).trans h642
  have aw : vz_aw n false (fun _ => 0) := fun k => ⟨fun i hi => by
    have t : (0 : Int) = 144115188075855872 + (i : Int) := hi.2
    omega, fun _ => by
    show (0 : Int) ≠ 288230376151711744
    decide⟩
  have X0 : ∀ h', vx_fr vn_W6 h14 h' → vn_XC h14 (vn_R n L) [] h' := fun h' F' => ⟨vx_fr_mono F' (fun a k q => Or.inl q), 0, fun _ _ => 0, ⟨(vx_fr_J F' (by omega)).trans k78, fun i hi => absurd hi (by omega)⟩, by omega, ⟨fun i hi => absurd hi (by omega), fun f hf => by
    rcases hf with t | ⟨u, t, _⟩
    · exact absurd t (fun t => t)
    · exact absurd t List.not_mem_nil⟩, fun i j hi => absurd hi (by omega)⟩
  refine vx_CV_mono (vc_79 (d := d) (c := 60) (n := n) (X := vn_XC h14 (vn_R n L)) (Y := vn_YC h14 (vn_R n L)) (Z := vm_ZA 8 (vn_R n L) (fun _ => False)) (fun jn js => vn_HC (R := vn_R n L) rfl w2 aw (by decide) h642' db rfl) w1 (fun j hj k => (w5 j hj).2.2 k) w2 w4 T.2.2 na X0 k68 rfl (by decide) hT14 rl14 k66) ?_
  rintro h15 ⟨_, q⟩ hT15
  have FW : ∀ {g g' : ve_H}, vx_fr (fun a k => vn_W6 a k ∨ vn_Wc a k) h14 g → vx_fr vn_Wb h g := fun F' => vx_fr_trans (vx_fr_mono F14 (fun a k q => by omega)) (vx_fr_mono F' (fun a k q => by omega))
  rcases q with ⟨j1, l', l1, l2, _, Fx, ac, ar, A, a200, se, dj⟩ | ⟨j1, l', l1, Fx, ar, a1, a2⟩
  · have F15 : vx_fr vn_Wb h h15 := vx_fr_trans (vx_fr_mono F14 (fun a k q => by omega)) (vx_fr_mono Fx (fun a k q => by omega))
    refine ⟨fun _ => ?_, fun q => absurd j1 q⟩
    rintro h17 e17 _ h18 e18 _ h19 e19 _ h20 e20 hT20
    have k37 : vx_J h17 625 37 = vx_J h 625 37 := by rw [e17, vx_J_ne (by omega)]; exact vx_fr_J F15 (by omega)
    rw [k37] at e18
    have k78' : vx_J h18 625 78 = ac := by rw [e18, vx_J_ne (by omega), e17, vx_J_ne (by omega)]; exact A.1
    rw [k78'] at e19
    have k642 : vx_J h19 642 60 = n := by rw [e19, vx_J_ne (by omega), e18, vx_J_ne (by omega), e17, vx_J_ne (by omega), vx_fr_J F15 (by omega)]; exact h642
    rw [k642] at e20
    have F20 : vx_fr (fun a k => a = 625 ∧ (k = 0 ∨ k = 37 ∨ k = 38 ∨ k = 39)) h15 h20 := vx_fr_sJ (vx_fr_sJ (vx_fr_sJ (vx_fr_sJ vx_fr_refl e17 (by omega)) e18 (by omega)) e19 (by omega)) e20 (by omega)
    have m0 : vx_J h20 625 0 = 0 := by rw [e20, vx_J_ne (by omega), e19, vx_J_ne (by omega), e18, vx_J_ne (by omega), e17, vx_J_eq (by decide)]
    have m37 : vx_J h20 625 37 = vx_J h 625 37 + 1 := by rw [e20, vx_J_ne (by omega), e19, vx_J_ne (by omega), e18, vx_J_eq (by omega)]
    have m38 : vx_J h20 625 38 = ac := by rw [e20, vx_J_ne (by omega), e19, vx_J_eq (by omega)]
    have m39 : vx_J h20 625 39 = n := by rw [e20, vx_J_eq (by omega)]
    have A20 := vn_A_fr A F20 (fun a k q => by omega)
    have zer : ∀ i, i < ac → ∀ v, n ≤ v → v < 8 → ar i v = 0 := fun i hi v hv v8 => by
      rcases se.1 i hi with t | ⟨w, _, w2⟩
      · exact absurd t (fun t => t)
      · rw [w2 v v8]
        show (if v < n then w v else 0) = 0
        rw [if_neg (by omega)]
    have djn : ∀ i j, i < ac → j < ac → vr_eq n (ar i) (ar j) → i = j := fun i j hi hj e => dj i j hi hj (fun v hv => by
      by_cases q : v < n
      · exact e v q
      · rw [zer i hi v (by omega) hv, zer j hj v (by omega) hv])
    refine vx_mono (vc_94_178 (d := d + 7) A20.2 m39 A20.1 w2 a200 djn ac 0 h20 0 none none rfl (by omega) rfl hT20 vx_fr_refl (fun i' h' => absurd h' (by omega))) ?_
    rintro o h1 ⟨x, ex, rx, er, F1, al⟩
    have FF : vx_fr (fun a k => vn_Wb a k ∨ (a = 625 ∧ (k = 37 ∨ k = 38 ∨ k = 39)) ∨ a = 653) h h1 := vx_fr_trans (vx_fr_mono F15 (fun a k q => Or.inl q)) (vx_fr_trans (vx_fr_mono F20 (fun a k q => by omega)) (vx_fr_mono F1 (fun a k q => Or.inr (Or.inr q))))
    refine ⟨x, ex, rx, K x h1 ⟨⟨(vx_fr_J FF (by omega)).trans rf.1, (vx_fr_J FF (by omega)).trans rf.2⟩, Or.inr ⟨FF, (vx_fr_J F1 (by omega)).trans m0, q31, q37, (vx_fr_J F1 (by omega)).trans m37, (vx_fr_J F1 (by omega)).trans m39, ac, ar, er, (vx_fr_J F1 (by omega)).trans m38, a200, ⟨fun i hi => ?_, fun u hu => ?_⟩, dj, al⟩⟩⟩
    · rcases se.1 i hi with t | ⟨w, w1', w2'⟩
      · exact absurd t (fun t => t)
      · exact ⟨w, (l1 w w1').1, (l1 w w1').2, w2'⟩
    · rcases l2 u hu with t | ⟨v, v1, v2⟩
      · exact absurd t (fun t => t)
      · exact se.2 _ (Or.inr ⟨v, v1, v2⟩)
  · have F15 : vx_fr vn_Wb h h15 := vx_fr_trans (vx_fr_mono F14 (fun a k q => by omega)) (vx_fr_mono Fx (fun a k q => by omega))
    refine ⟨fun q => absurd q j1, fun _ => no2 (Or.inr (Or.inr ⟨ar, fun i hi => ?_, a2⟩)) h15 hT15 F15⟩
    obtain ⟨w, w1', w2'⟩ := a1 i hi
    exact ⟨w, (l1 w w1').1, (l1 w w1').2, w2'⟩
end
