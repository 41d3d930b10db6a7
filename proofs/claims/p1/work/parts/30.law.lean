/-! Printed by my own program (wip/whole/gen_seg.py): walks of methods 1-17,209-216 -/
-- RuleHouse.type(JI)Z
theorem vg_1 {d : Nat} {h : ve_H} {P : Int → ve_H → Prop} {x1 : Int} {x2 : Int} (hT : vx_T 1 625 h) (H : vx_CI d 192 [.ref 2, .long (vx_l x1), .int (vx_i x2)] h (fun r1 h1 => vx_T 1 625 h1 → (r1 = 0 ∨ r1 = 1) ∧ P r1 h1)) : vx_CI (d + 1) 1 [.ref 1, .long (vx_l x1), .int (vx_i x2)] h P := by
  refine vx_enter (ml := 4) (by decide +kernel) ?_
  show vx_W _ _ 0 [some (.ref 1), some (.long (vx_l x1)), none, some (.int (vx_i x2))] [] h _
  refine vx_aload_n (n := 0) (q := 1) (by decide +kernel) rfl ?_
  refine vx_getR (b := 2) (idx := 12) (kd := 1) (s := 0) (fin := true) (q := 4) (by decide +kernel) (vx_Tk hT (by decide +kernel)) (vx_Tr hT (kd := 1) (by decide +kernel) (by decide +kernel) (by decide +kernel)) ?_
  refine vx_lload_n (n := 1) (q := 5) (by decide +kernel) rfl ?_
  refine vx_iload_n (n := 3) (q := 6) (by decide +kernel) rfl ?_
  refine vx_callI (i := .invokevirtual 58) (how := 3) (cm := 192) (np := 3) (q := 9) (args := [.ref 2, .long (vx_l x1), .int (vx_i x2)]) (rest := []) (by decide +kernel) rfl rfl rfl (vx_w2 (w := 4) (ml := 6) rfl (by decide +kernel)) (vx_rcv (kd := 2) (vx_Tk hT (by decide +kernel)) (by decide +kernel)) H (fun r1 h1 hr1 hs1 H => ?_)
  have hT1 := vx_Tsh hT hs1
  replace H := H hT1
  obtain ⟨k2, H⟩ := H
  refine vx_retZ (q := 10) (by decide +kernel) k2 ?_
  exact H
-- RuleHouse.program()I
theorem vg_2 {d : Nat} {h : ve_H} {P : Int → ve_H → Prop} {X : Nat → ve_H → Prop}  (hT : vx_T 1 625 h) (H : (∃ b1, ve_R h 1 4 = some b1 ∧ vx_o 1 625 5 b1 ∧ vx_CV d 145 [.ref 7, .ref b1] h (fun h2 => vx_T 1 625 h2 → vx_CV d 12 [.ref 1] h2 (fun h3 => vx_T 1 625 h3 → (((vx_J h3 1 11) = 0 → (∃ b5, ve_R h3 1 3 = some b5 ∧ vx_o 1 625 5 b5 ∧ (∃ b6, ve_R h3 1 4 = some b6 ∧ vx_o 1 625 5 b6 ∧ (∀ h7, h7 = ve_sR h3 1 3 (some b6) → vx_T 1 625 h7 → (∀ h8, h8 = ve_sR h7 1 4 (some b5) → vx_T 1 625 h8 → (∀ h9, h9 = vx_sJ h8 1 8 0 → vx_T 1 625 h9 → P (vx_J h9 b6 7) h9)))))) ∧ ((vx_J h3 1 11) ≠ 0 → (ve_rk h3 6 = true) ∧ (∀ h10, h10 = ve_new h3 10 6 → vx_T 1 625 h10 → X 10 h10))))))) : vx_CX (d + 1) 2 [.ref 1] h P X := by
  refine vx_enter (ml := 2) (by decide +kernel) ?_
  show vx_W _ _ 0 [some (.ref 1), none] [] h _
  refine vx_aload_n (n := 0) (q := 1) (by decide +kernel) rfl ?_
  refine vx_getR (b := 7) (idx := 21) (kd := 1) (s := 1) (fin := true) (q := 4) (by decide +kernel) (vx_Tk hT (by decide +kernel)) (vx_Tr hT (kd := 1) (by decide +kernel) (by decide +kernel) (by decide +kernel)) ?_
  refine vx_aload_n (n := 0) (q := 5) (by decide +kernel) rfl ?_
  obtain ⟨b1, eb1, ob1, H⟩ := H
  refine vx_getR (b := b1) (idx := 39) (kd := 1) (s := 4) (fin := false) (q := 8) (by decide +kernel) (vx_Tk hT (by decide +kernel)) eb1 ?_
  refine vx_callV (i := .invokevirtual 62) (how := 3) (cm := 145) (np := 2) (q := 11) (args := [.ref 7, .ref b1]) (rest := []) (by decide +kernel) rfl rfl rfl (vx_w2 (w := 2) (ml := 4) rfl (by decide +kernel)) (vx_rcv (kd := 3) (vx_Tk hT (by decide +kernel)) (by decide +kernel)) H (fun h2 hs2 H => ?_)
  have hT2 := vx_Tsh hT hs2
  replace H := H hT2
  refine vx_aload_n (n := 0) (q := 12) (by decide +kernel) rfl ?_
  refine vx_callV (i := .invokevirtual 66) (how := 3) (cm := 12) (np := 1) (q := 15) (args := [.ref 1]) (rest := []) (by decide +kernel) rfl rfl rfl (vx_w2 (w := 1) (ml := 1) rfl (by decide +kernel)) (vx_rcv (kd := 1) (vx_Tk hT2 (by decide +kernel)) (by decide +kernel)) H (fun h3 hs3 H => ?_)
  have hT3 := vx_Tsh hT2 hs3
  replace H := H hT3
  refine vx_aload_n (n := 0) (q := 16) (by decide +kernel) rfl ?_
  refine vx_getI (idx := 69) (kd := 1) (s := 11) (fin := false) (q := 19) (by decide +kernel) (vx_Tk hT3 (by decide +kernel)) ?_
  refine vx_if0_eq (off := 11) (q := 22) (t := 30) (by decide +kernel) (vx_rI_J h3 1 11) (fun c4 => ?_) (fun c4 => ?_)
  · replace H := H.1 c4
    refine vx_aload_n (n := 0) (q := 31) (by decide +kernel) rfl ?_
    obtain ⟨b5, eb5, ob5, H⟩ := H
    refine vx_getR (b := b5) (idx := 35) (kd := 1) (s := 3) (fin := false) (q := 34) (by decide +kernel) (vx_Tk hT3 (by decide +kernel)) eb5 ?_
    refine vx_astore_n (n := 1) (q := 35) (lv' := [some (.ref 1), some (.ref b5)]) (by decide +kernel) rfl ?_
    refine vx_aload_n (n := 0) (q := 36) (by decide +kernel) rfl ?_
    refine vx_aload_n (n := 0) (q := 37) (by decide +kernel) rfl ?_
    obtain ⟨b6, eb6, ob6, H⟩ := H
    refine vx_getR (b := b6) (idx := 39) (kd := 1) (s := 4) (fin := false) (q := 40) (by decide +kernel) (vx_Tk hT3 (by decide +kernel)) eb6 ?_
    refine vx_putR (idx := 35) (kd := 1) (s := 3) (fin := false) (q := 43) (by decide +kernel) (vx_Tk hT3 (by decide +kernel)) (fun h7 e7 => ?_)
    have hT7 := vx_TR hT3 e7 ⟨vx_Tk hT3 (kd := 1) (by decide +kernel), (by decide +kernel)⟩
    replace H := H h7 e7 hT7
    refine vx_aload_n (n := 0) (q := 44) (by decide +kernel) rfl ?_
    refine vx_aload_n (n := 1) (q := 45) (by decide +kernel) rfl ?_
    refine vx_putR (idx := 39) (kd := 1) (s := 4) (fin := false) (q := 48) (by decide +kernel) (vx_Tk hT7 (by decide +kernel)) (fun h8 e8 => ?_)
    have hT8 := vx_TR hT7 e8 ⟨vx_Tk hT7 (kd := 1) (by decide +kernel), (by decide +kernel)⟩
    replace H := H h8 e8 hT8
    refine vx_aload_n (n := 0) (q := 49) (by decide +kernel) rfl ?_
    refine vx_iconst (n := 0) (q := 50) (by decide +kernel) ?_
    refine vx_putI (idx := 54) (kd := 1) (s := 8) (fin := false) (q := 53) (by decide +kernel) (vx_Tk hT8 (by decide +kernel)) (fun h9 e9 => ?_)
    have hT9 := vx_TJ hT8 e9
    replace H := H h9 e9 hT9
    refine vx_aload_n (n := 0) (q := 54) (by decide +kernel) rfl ?_
    refine vx_getR (b := b6) (idx := 35) (kd := 1) (s := 3) (fin := false) (q := 57) (by decide +kernel) (vx_Tk hT9 (by decide +kernel)) (vx_RtJ e9 (vx_RtR e8 (by decide) (vx_Rsm e7))) ?_
    refine vx_getI (idx := 75) (kd := 5) (s := 7) (fin := false) (q := 60) (by decide +kernel) (vx_Tk hT9 ob6) ?_
    refine vx_retIQ (q := 61) (by decide +kernel) ?_
    exact vx_RXi (vx_rI_J h9 b6 7) H
  · replace H := H.2 c4
    obtain ⟨k11, H⟩ := H
    refine vx_new (idx := 72) (kd := 10) (z := 6) (q := 25) (by decide +kernel) k11 (fun h10 e10 => ?_)
    have hT10 := vx_Tnew hT3 e10
    have kn10 : ve_k h10 (ve_n h3) = 10 := by rw [e10, ve_k_new, if_pos rfl]
    replace H := H h10 e10 hT10
    refine vx_dupR (q := 26) (by decide +kernel) ?_
    refine vx_xinit (i := .invokespecial 74) (np := 1) (cm := 10) (q := 29) (by decide +kernel) kn10 rfl ?_
    refine vx_throw (q := 30) (by decide +kernel) (by rw [kn10]; decide) ?_
    exact vx_RXx kn10 H
-- RuleHouse.fact(I)Z
theorem vg_3 {d : Nat} {h : ve_H} {P : Int → ve_H → Prop} {X : Nat → ve_H → Prop} {x1 : Int} (hT : vx_T 1 625 h) (H : (vx_rI x1) ∧ ((x1 = 0 → (∃ b3, ve_R h 1 3 = some b3 ∧ vx_o 1 625 5 b3 ∧ vx_CV d 146 [.ref 7, .ref b3] h (fun h4 => vx_T 1 625 h4 → vx_CV d 12 [.ref 1] h4 (fun h5 => vx_T 1 625 h5 → (((vx_J h5 1 11) = 0 → (∃ b7, ve_R h5 1 3 = some b7 ∧ vx_o 1 625 5 b7 ∧ vx_CI d 173 [.ref (vx_r b7 5), .ref 18] h5 (fun r8 h8 => vx_T 1 625 h8 → ((x1 ≠ 1 → ((r8 = ((-1)) → P 0 h8) ∧ (r8 ≠ ((-1)) → (∃ b11, ve_R h8 1 3 = some b11 ∧ vx_o 1 625 5 b11 ∧ vx_CV d 175 [.ref (vx_r b11 5), .int (vx_i r8)] h8 (fun h12 => vx_T 1 625 h12 → (∀ h13, h13 = vx_sJ h12 1 8 0 → vx_T 1 625 h13 → P 1 h13)))))) ∧ (x1 = 1 → ((r8 = ((-1)) → (∃ b15, ve_R h8 1 3 = some b15 ∧ vx_o 1 625 5 b15 ∧ (((vx_J h8 (vx_r b15 5) 4) < 200 → vx_CI d 174 [.ref (vx_r b15 5), .ref 18] h8 (fun r17 h17 => vx_T 1 625 h17 → (∀ h18, h18 = vx_sJ h17 1 8 0 → vx_T 1 625 h18 → P 1 h18))) ∧ (200 ≤ (vx_J h8 (vx_r b15 5) 4) → (ve_rk h8 6 = true) ∧ (∀ h19, h19 = ve_new h8 11 6 → vx_T 1 625 h19 → X 11 h19))))) ∧ (r8 ≠ ((-1)) → P 0 h8))))))) ∧ ((vx_J h5 1 11) ≠ 0 → (ve_rk h5 6 = true) ∧ (∀ h21, h21 = ve_new h5 10 6 → vx_T 1 625 h21 → X 10 h21))))))) ∧ (x1 ≠ 0 → ((x1 = 1 → (∃ b24, ve_R h 1 3 = some b24 ∧ vx_o 1 625 5 b24 ∧ vx_CV d 146 [.ref 7, .ref b24] h (fun h25 => vx_T 1 625 h25 → vx_CV d 12 [.ref 1] h25 (fun h26 => vx_T 1 625 h26 → (((vx_J h26 1 11) = 0 → (∃ b28, ve_R h26 1 3 = some b28 ∧ vx_o 1 625 5 b28 ∧ vx_CI d 173 [.ref (vx_r b28 5), .ref 18] h26 (fun r29 h29 => vx_T 1 625 h29 → ((r29 = ((-1)) → (∃ b31, ve_R h29 1 3 = some b31 ∧ vx_o 1 625 5 b31 ∧ (((vx_J h29 (vx_r b31 5) 4) < 200 → vx_CI d 174 [.ref (vx_r b31 5), .ref 18] h29 (fun r33 h33 => vx_T 1 625 h33 → (∀ h34, h34 = vx_sJ h33 1 8 0 → vx_T 1 625 h34 → P 1 h34))) ∧ (200 ≤ (vx_J h29 (vx_r b31 5) 4) → (ve_rk h29 6 = true) ∧ (∀ h35, h35 = ve_new h29 11 6 → vx_T 1 625 h35 → X 11 h35))))) ∧ (r29 ≠ ((-1)) → P 0 h29))))) ∧ ((vx_J h26 1 11) ≠ 0 → (ve_rk h26 6 = true) ∧ (∀ h37, h37 = ve_new h26 10 6 → vx_T 1 625 h37 → X 10 h37))))))) ∧ (x1 ≠ 1 → vx_CV d 193 [.ref 2] h (fun h39 => vx_T 1 625 h39 → (∀ h40, h40 = vx_sJ h39 1 11 0 → vx_T 1 625 h40 → (∀ h41, h41 = vx_sJ h40 1 12 0 → vx_T 1 625 h41 → (ve_rk h41 6 = true) ∧ (∀ h42, h42 = ve_new h41 10 6 → vx_T 1 625 h42 → X 10 h42))))))))) : vx_CX (d + 1) 3 [.ref 1, .int (vx_i x1)] h P X := by
  refine vx_enter (ml := 4) (by decide +kernel) ?_
  show vx_W _ _ 0 [some (.ref 1), some (.int (vx_i x1)), none, none] [] h _
  refine vx_iload_n (n := 1) (q := 1) (by decide +kernel) rfl ?_
  obtain ⟨k1, H⟩ := H
  refine vx_if0_eq (off := 33) (q := 4) (t := 34) (by decide +kernel) k1 (fun c2 => ?_) (fun c2 => ?_)
  · replace H := H.1 c2
    refine vx_aload_n (n := 0) (q := 35) (by decide +kernel) rfl ?_
    refine vx_getR (b := 7) (idx := 21) (kd := 1) (s := 1) (fin := true) (q := 38) (by decide +kernel) (vx_Tk hT (by decide +kernel)) (vx_Tr hT (kd := 1) (by decide +kernel) (by decide +kernel) (by decide +kernel)) ?_
    refine vx_aload_n (n := 0) (q := 39) (by decide +kernel) rfl ?_
    obtain ⟨b3, eb3, ob3, H⟩ := H
    refine vx_getR (b := b3) (idx := 35) (kd := 1) (s := 3) (fin := false) (q := 42) (by decide +kernel) (vx_Tk hT (by decide +kernel)) eb3 ?_
    refine vx_callV (i := .invokevirtual 84) (how := 3) (cm := 146) (np := 2) (q := 45) (args := [.ref 7, .ref b3]) (rest := []) (by decide +kernel) rfl rfl rfl (vx_w2 (w := 2) (ml := 2) rfl (by decide +kernel)) (vx_rcv (kd := 3) (vx_Tk hT (by decide +kernel)) (by decide +kernel)) H (fun h4 hs4 H => ?_)
    have hT4 := vx_Tsh hT hs4
    replace H := H hT4
    refine vx_aload_n (n := 0) (q := 46) (by decide +kernel) rfl ?_
    refine vx_callV (i := .invokevirtual 66) (how := 3) (cm := 12) (np := 1) (q := 49) (args := [.ref 1]) (rest := []) (by decide +kernel) rfl rfl rfl (vx_w2 (w := 1) (ml := 1) rfl (by decide +kernel)) (vx_rcv (kd := 1) (vx_Tk hT4 (by decide +kernel)) (by decide +kernel)) H (fun h5 hs5 H => ?_)
    have hT5 := vx_Tsh hT4 hs5
    replace H := H hT5
    refine vx_aload_n (n := 0) (q := 50) (by decide +kernel) rfl ?_
    refine vx_getI (idx := 69) (kd := 1) (s := 11) (fin := false) (q := 53) (by decide +kernel) (vx_Tk hT5 (by decide +kernel)) ?_
    refine vx_if0_eq (off := 11) (q := 56) (t := 64) (by decide +kernel) (vx_rI_J h5 1 11) (fun c6 => ?_) (fun c6 => ?_)
    · replace H := H.1 c6
      refine vx_aload_n (n := 0) (q := 65) (by decide +kernel) rfl ?_
      obtain ⟨b7, eb7, ob7, H⟩ := H
      refine vx_getR (b := b7) (idx := 35) (kd := 1) (s := 3) (fin := false) (q := 68) (by decide +kernel) (vx_Tk hT5 (by decide +kernel)) eb7 ?_
      refine vx_getR (b := vx_r b7 5) (idx := 87) (kd := 5) (s := 5) (fin := true) (q := 71) (by decide +kernel) (vx_Tk hT5 ob7) (vx_Tr hT5 (kd := 5) ob7 (by decide +kernel) (vx_f5_5 ob7).1) ?_
      refine vx_aload_n (n := 0) (q := 72) (by decide +kernel) rfl ?_
      refine vx_getR (b := 7) (idx := 21) (kd := 1) (s := 1) (fin := true) (q := 75) (by decide +kernel) (vx_Tk hT5 (by decide +kernel)) (vx_Tr hT5 (kd := 1) (by decide +kernel) (by decide +kernel) (by decide +kernel)) ?_
      refine vx_getR (b := 18) (idx := 90) (kd := 3) (s := 3) (fin := true) (q := 78) (by decide +kernel) (vx_Tk hT5 (by decide +kernel)) (vx_Tr hT5 (kd := 3) (by decide +kernel) (by decide +kernel) (by decide +kernel)) ?_
      refine vx_callI (i := .invokevirtual 94) (how := 3) (cm := 173) (np := 2) (q := 81) (args := [.ref (vx_r b7 5), .ref 18]) (rest := []) (by decide +kernel) rfl rfl rfl (vx_w2 (w := 2) (ml := 2) rfl (by decide +kernel)) (vx_rcv (kd := 6) (vx_Tk hT5 (vx_f5_5 ob7).2) (by decide +kernel)) H (fun r8 h8 hr8 hs8 H => ?_)
      have hT8 := vx_Tsh hT5 hs8
      replace H := H hT8
      refine vx_istore_n (n := 2) (q := 82) (lv' := [some (.ref 1), some (.int (vx_i x1)), some (.int (vx_i r8)), none]) (by decide +kernel) rfl ?_
      refine vx_iload_n (n := 1) (q := 83) (by decide +kernel) rfl ?_
      refine vx_iconst (n := 1) (q := 84) (by decide +kernel) ?_
      refine vx_icmp_ne (off := 7) (q := 87) (t := 91) (by decide +kernel) k1 (by decide) (fun c9 => ?_) (fun c9 => ?_)
      · replace H := H.1 c9
        refine vx_iconst (n := 0) (q := 92) (by decide +kernel) ?_
        refine vx_istore_n (n := 3) (q := 93) (lv' := [some (.ref 1), some (.int (vx_i x1)), some (.int (vx_i r8)), some (.int (vx_i 0))]) (by decide +kernel) rfl ?_
        refine vx_iload_n (n := 3) (q := 94) (by decide +kernel) rfl ?_
        refine vx_iload_n (n := 2) (q := 95) (by decide +kernel) rfl ?_
        refine vx_iconst (n := (-1)) (q := 96) (by decide +kernel) ?_
        refine vx_icmp_eq (off := 7) (q := 99) (t := 103) (by decide +kernel) hr8 (by decide) (fun c10 => ?_) (fun c10 => ?_)
        · replace H := H.1 c10
          refine vx_iconst (n := 0) (q := 104) (by decide +kernel) ?_
          refine vx_icmp_ne (off := 5) (q := 107) (t := 109) (by decide +kernel) (by decide) (by decide) (fun c => absurd c (by decide)) (fun _ => ?_)
          refine vx_iconst (n := 0) (q := 108) (by decide +kernel) ?_
          refine vx_retZQ (q := 109) (by decide +kernel) (Or.inl rfl) ?_
          exact vx_RXi (by decide) H
        · replace H := H.2 c10
          refine vx_iconst (n := 1) (q := 100) (by decide +kernel) ?_
          refine vx_goto (off := 4) (q := 103) (t := 104) (by decide +kernel) ?_
          refine vx_icmp_ne (off := 5) (q := 107) (t := 109) (by decide +kernel) (by decide) (by decide) (fun _ => ?_) (fun c => absurd c (by decide))
          refine vx_iload_n (n := 3) (q := 110) (by decide +kernel) rfl ?_
          refine vx_if0_eq (off := 27) (q := 113) (t := 137) (by decide +kernel) (by decide) (fun _ => ?_) (fun c => absurd c (by decide))
          refine vx_iload_n (n := 3) (q := 138) (by decide +kernel) rfl ?_
          refine vx_if0_eq (off := 24) (q := 141) (t := 162) (by decide +kernel) (by decide) (fun _ => ?_) (fun c => absurd c (by decide))
          refine vx_aload_n (n := 0) (q := 163) (by decide +kernel) rfl ?_
          obtain ⟨b11, eb11, ob11, H⟩ := H
          refine vx_getR (b := b11) (idx := 35) (kd := 1) (s := 3) (fin := false) (q := 166) (by decide +kernel) (vx_Tk hT8 (by decide +kernel)) eb11 ?_
          refine vx_getR (b := vx_r b11 5) (idx := 87) (kd := 5) (s := 5) (fin := true) (q := 169) (by decide +kernel) (vx_Tk hT8 ob11) (vx_Tr hT8 (kd := 5) ob11 (by decide +kernel) (vx_f5_5 ob11).1) ?_
          refine vx_iload_n (n := 2) (q := 170) (by decide +kernel) rfl ?_
          refine vx_callV (i := .invokevirtual 107) (how := 3) (cm := 175) (np := 2) (q := 173) (args := [.ref (vx_r b11 5), .int (vx_i r8)]) (rest := []) (by decide +kernel) rfl rfl rfl (vx_w2 (w := 2) (ml := 3) rfl (by decide +kernel)) (vx_rcv (kd := 6) (vx_Tk hT8 (vx_f5_5 ob11).2) (by decide +kernel)) H (fun h12 hs12 H => ?_)
          have hT12 := vx_Tsh hT8 hs12
          replace H := H hT12
          refine vx_aload_n (n := 0) (q := 174) (by decide +kernel) rfl ?_
          refine vx_iconst (n := 0) (q := 175) (by decide +kernel) ?_
          refine vx_putI (idx := 54) (kd := 1) (s := 8) (fin := false) (q := 178) (by decide +kernel) (vx_Tk hT12 (by decide +kernel)) (fun h13 e13 => ?_)
          have hT13 := vx_TJ hT12 e13
          replace H := H h13 e13 hT13
          refine vx_iconst (n := 1) (q := 179) (by decide +kernel) ?_
          refine vx_retZQ (q := 180) (by decide +kernel) (Or.inr rfl) ?_
          exact vx_RXi (by decide) H
      · replace H := H.2 c9
        refine vx_iconst (n := 1) (q := 88) (by decide +kernel) ?_
        refine vx_goto (off := 4) (q := 91) (t := 92) (by decide +kernel) ?_
        refine vx_istore_n (n := 3) (q := 93) (lv' := [some (.ref 1), some (.int (vx_i x1)), some (.int (vx_i r8)), some (.int (vx_i 1))]) (by decide +kernel) rfl ?_
        refine vx_iload_n (n := 3) (q := 94) (by decide +kernel) rfl ?_
        refine vx_iload_n (n := 2) (q := 95) (by decide +kernel) rfl ?_
        refine vx_iconst (n := (-1)) (q := 96) (by decide +kernel) ?_
        refine vx_icmp_eq (off := 7) (q := 99) (t := 103) (by decide +kernel) hr8 (by decide) (fun c14 => ?_) (fun c14 => ?_)
        · replace H := H.1 c14
          refine vx_iconst (n := 0) (q := 104) (by decide +kernel) ?_
          refine vx_icmp_ne (off := 5) (q := 107) (t := 109) (by decide +kernel) (by decide) (by decide) (fun _ => ?_) (fun c => absurd c (by decide))
          refine vx_iload_n (n := 3) (q := 110) (by decide +kernel) rfl ?_
          refine vx_if0_eq (off := 27) (q := 113) (t := 137) (by decide +kernel) (by decide) (fun c => absurd c (by decide)) (fun _ => ?_)
          refine vx_aload_n (n := 0) (q := 114) (by decide +kernel) rfl ?_
          obtain ⟨b15, eb15, ob15, H⟩ := H
          refine vx_getR (b := b15) (idx := 35) (kd := 1) (s := 3) (fin := false) (q := 117) (by decide +kernel) (vx_Tk hT8 (by decide +kernel)) eb15 ?_
          refine vx_getR (b := vx_r b15 5) (idx := 87) (kd := 5) (s := 5) (fin := true) (q := 120) (by decide +kernel) (vx_Tk hT8 ob15) (vx_Tr hT8 (kd := 5) ob15 (by decide +kernel) (vx_f5_5 ob15).1) ?_
          refine vx_getI (idx := 98) (kd := 6) (s := 4) (fin := false) (q := 123) (by decide +kernel) (vx_Tk hT8 (vx_f5_5 ob15).2) ?_
          refine vx_sipush (n := 200) (q := 126) (by decide +kernel) ?_
          refine vx_icmp_lt (off := 11) (q := 129) (t := 137) (by decide +kernel) (vx_rI_J h8 (vx_r b15 5) 4) (by decide) (fun c16 => ?_) (fun c16 => ?_)
          · replace H := H.1 c16
            refine vx_iload_n (n := 3) (q := 138) (by decide +kernel) rfl ?_
            refine vx_if0_eq (off := 24) (q := 141) (t := 162) (by decide +kernel) (by decide) (fun c => absurd c (by decide)) (fun _ => ?_)
            refine vx_aload_n (n := 0) (q := 142) (by decide +kernel) rfl ?_
            refine vx_getR (b := b15) (idx := 35) (kd := 1) (s := 3) (fin := false) (q := 145) (by decide +kernel) (vx_Tk hT8 (by decide +kernel)) eb15 ?_
            refine vx_getR (b := vx_r b15 5) (idx := 87) (kd := 5) (s := 5) (fin := true) (q := 148) (by decide +kernel) (vx_Tk hT8 ob15) (vx_Tr hT8 (kd := 5) ob15 (by decide +kernel) (vx_f5_5 ob15).1) ?_
            refine vx_aload_n (n := 0) (q := 149) (by decide +kernel) rfl ?_
            refine vx_getR (b := 7) (idx := 21) (kd := 1) (s := 1) (fin := true) (q := 152) (by decide +kernel) (vx_Tk hT8 (by decide +kernel)) (vx_Tr hT8 (kd := 1) (by decide +kernel) (by decide +kernel) (by decide +kernel)) ?_
            refine vx_getR (b := 18) (idx := 90) (kd := 3) (s := 3) (fin := true) (q := 155) (by decide +kernel) (vx_Tk hT8 (by decide +kernel)) (vx_Tr hT8 (kd := 3) (by decide +kernel) (by decide +kernel) (by decide +kernel)) ?_
            refine vx_callI (i := .invokevirtual 104) (how := 3) (cm := 174) (np := 2) (q := 158) (args := [.ref (vx_r b15 5), .ref 18]) (rest := []) (by decide +kernel) rfl rfl rfl (vx_w2 (w := 2) (ml := 3) rfl (by decide +kernel)) (vx_rcv (kd := 6) (vx_Tk hT8 (vx_f5_5 ob15).2) (by decide +kernel)) H (fun r17 h17 hr17 hs17 H => ?_)
            have hT17 := vx_Tsh hT8 hs17
            replace H := H hT17
            refine vx_popI (q := 159) (by decide +kernel) ?_
            refine vx_goto (off := 14) (q := 162) (t := 173) (by decide +kernel) ?_
            refine vx_aload_n (n := 0) (q := 174) (by decide +kernel) rfl ?_
            refine vx_iconst (n := 0) (q := 175) (by decide +kernel) ?_
            refine vx_putI (idx := 54) (kd := 1) (s := 8) (fin := false) (q := 178) (by decide +kernel) (vx_Tk hT17 (by decide +kernel)) (fun h18 e18 => ?_)
            have hT18 := vx_TJ hT17 e18
            replace H := H h18 e18 hT18
            refine vx_iconst (n := 1) (q := 179) (by decide +kernel) ?_
            refine vx_retZQ (q := 180) (by decide +kernel) (Or.inr rfl) ?_
            exact vx_RXi (by decide) H
          · replace H := H.2 c16
            obtain ⟨k20, H⟩ := H
            refine vx_new (idx := 101) (kd := 11) (z := 6) (q := 132) (by decide +kernel) k20 (fun h19 e19 => ?_)
            have hT19 := vx_Tnew hT8 e19
            have kn19 : ve_k h19 (ve_n h8) = 11 := by rw [e19, ve_k_new, if_pos rfl]
            replace H := H h19 e19 hT19
            refine vx_dupR (q := 133) (by decide +kernel) ?_
            refine vx_xinit (i := .invokespecial 103) (np := 1) (cm := 11) (q := 136) (by decide +kernel) kn19 rfl ?_
            refine vx_throw (q := 137) (by decide +kernel) (by rw [kn19]; decide) ?_
            exact vx_RXx kn19 H
        · replace H := H.2 c14
          refine vx_iconst (n := 1) (q := 100) (by decide +kernel) ?_
          refine vx_goto (off := 4) (q := 103) (t := 104) (by decide +kernel) ?_
          refine vx_icmp_ne (off := 5) (q := 107) (t := 109) (by decide +kernel) (by decide) (by decide) (fun c => absurd c (by decide)) (fun _ => ?_)
          refine vx_iconst (n := 0) (q := 108) (by decide +kernel) ?_
          refine vx_retZQ (q := 109) (by decide +kernel) (Or.inl rfl) ?_
          exact vx_RXi (by decide) H
    · replace H := H.2 c6
      obtain ⟨k22, H⟩ := H
      refine vx_new (idx := 72) (kd := 10) (z := 6) (q := 59) (by decide +kernel) k22 (fun h21 e21 => ?_)
      have hT21 := vx_Tnew hT5 e21
      have kn21 : ve_k h21 (ve_n h5) = 10 := by rw [e21, ve_k_new, if_pos rfl]
      replace H := H h21 e21 hT21
      refine vx_dupR (q := 60) (by decide +kernel) ?_
      refine vx_xinit (i := .invokespecial 74) (np := 1) (cm := 10) (q := 63) (by decide +kernel) kn21 rfl ?_
      refine vx_throw (q := 64) (by decide +kernel) (by rw [kn21]; decide) ?_
      exact vx_RXx kn21 H
  · replace H := H.2 c2
    refine vx_iload_n (n := 1) (q := 5) (by decide +kernel) rfl ?_
    refine vx_iconst (n := 1) (q := 6) (by decide +kernel) ?_
    refine vx_icmp_eq (off := 28) (q := 9) (t := 34) (by decide +kernel) k1 (by decide) (fun c23 => ?_) (fun c23 => ?_)
    · replace H := H.1 c23
      refine vx_aload_n (n := 0) (q := 35) (by decide +kernel) rfl ?_
      refine vx_getR (b := 7) (idx := 21) (kd := 1) (s := 1) (fin := true) (q := 38) (by decide +kernel) (vx_Tk hT (by decide +kernel)) (vx_Tr hT (kd := 1) (by decide +kernel) (by decide +kernel) (by decide +kernel)) ?_
      refine vx_aload_n (n := 0) (q := 39) (by decide +kernel) rfl ?_
      obtain ⟨b24, eb24, ob24, H⟩ := H
      refine vx_getR (b := b24) (idx := 35) (kd := 1) (s := 3) (fin := false) (q := 42) (by decide +kernel) (vx_Tk hT (by decide +kernel)) eb24 ?_
      refine vx_callV (i := .invokevirtual 84) (how := 3) (cm := 146) (np := 2) (q := 45) (args := [.ref 7, .ref b24]) (rest := []) (by decide +kernel) rfl rfl rfl (vx_w2 (w := 2) (ml := 2) rfl (by decide +kernel)) (vx_rcv (kd := 3) (vx_Tk hT (by decide +kernel)) (by decide +kernel)) H (fun h25 hs25 H => ?_)
      have hT25 := vx_Tsh hT hs25
      replace H := H hT25
      refine vx_aload_n (n := 0) (q := 46) (by decide +kernel) rfl ?_
      refine vx_callV (i := .invokevirtual 66) (how := 3) (cm := 12) (np := 1) (q := 49) (args := [.ref 1]) (rest := []) (by decide +kernel) rfl rfl rfl (vx_w2 (w := 1) (ml := 1) rfl (by decide +kernel)) (vx_rcv (kd := 1) (vx_Tk hT25 (by decide +kernel)) (by decide +kernel)) H (fun h26 hs26 H => ?_)
      have hT26 := vx_Tsh hT25 hs26
      replace H := H hT26
      refine vx_aload_n (n := 0) (q := 50) (by decide +kernel) rfl ?_
      refine vx_getI (idx := 69) (kd := 1) (s := 11) (fin := false) (q := 53) (by decide +kernel) (vx_Tk hT26 (by decide +kernel)) ?_
      refine vx_if0_eq (off := 11) (q := 56) (t := 64) (by decide +kernel) (vx_rI_J h26 1 11) (fun c27 => ?_) (fun c27 => ?_)
      · replace H := H.1 c27
        refine vx_aload_n (n := 0) (q := 65) (by decide +kernel) rfl ?_
        obtain ⟨b28, eb28, ob28, H⟩ := H
        refine vx_getR (b := b28) (idx := 35) (kd := 1) (s := 3) (fin := false) (q := 68) (by decide +kernel) (vx_Tk hT26 (by decide +kernel)) eb28 ?_
        refine vx_getR (b := vx_r b28 5) (idx := 87) (kd := 5) (s := 5) (fin := true) (q := 71) (by decide +kernel) (vx_Tk hT26 ob28) (vx_Tr hT26 (kd := 5) ob28 (by decide +kernel) (vx_f5_5 ob28).1) ?_
        refine vx_aload_n (n := 0) (q := 72) (by decide +kernel) rfl ?_
        refine vx_getR (b := 7) (idx := 21) (kd := 1) (s := 1) (fin := true) (q := 75) (by decide +kernel) (vx_Tk hT26 (by decide +kernel)) (vx_Tr hT26 (kd := 1) (by decide +kernel) (by decide +kernel) (by decide +kernel)) ?_
        refine vx_getR (b := 18) (idx := 90) (kd := 3) (s := 3) (fin := true) (q := 78) (by decide +kernel) (vx_Tk hT26 (by decide +kernel)) (vx_Tr hT26 (kd := 3) (by decide +kernel) (by decide +kernel) (by decide +kernel)) ?_
        refine vx_callI (i := .invokevirtual 94) (how := 3) (cm := 173) (np := 2) (q := 81) (args := [.ref (vx_r b28 5), .ref 18]) (rest := []) (by decide +kernel) rfl rfl rfl (vx_w2 (w := 2) (ml := 2) rfl (by decide +kernel)) (vx_rcv (kd := 6) (vx_Tk hT26 (vx_f5_5 ob28).2) (by decide +kernel)) H (fun r29 h29 hr29 hs29 H => ?_)
        have hT29 := vx_Tsh hT26 hs29
        replace H := H hT29
        refine vx_istore_n (n := 2) (q := 82) (lv' := [some (.ref 1), some (.int (vx_i x1)), some (.int (vx_i r29)), none]) (by decide +kernel) rfl ?_
        refine vx_iload_n (n := 1) (q := 83) (by decide +kernel) rfl ?_
        refine vx_iconst (n := 1) (q := 84) (by decide +kernel) ?_
        refine vx_icmp_ne (off := 7) (q := 87) (t := 91) (by decide +kernel) k1 (by decide) (fun c => absurd c (by omega)) (fun _ => ?_)
        refine vx_iconst (n := 1) (q := 88) (by decide +kernel) ?_
        refine vx_goto (off := 4) (q := 91) (t := 92) (by decide +kernel) ?_
        refine vx_istore_n (n := 3) (q := 93) (lv' := [some (.ref 1), some (.int (vx_i x1)), some (.int (vx_i r29)), some (.int (vx_i 1))]) (by decide +kernel) rfl ?_
        refine vx_iload_n (n := 3) (q := 94) (by decide +kernel) rfl ?_
        refine vx_iload_n (n := 2) (q := 95) (by decide +kernel) rfl ?_
        refine vx_iconst (n := (-1)) (q := 96) (by decide +kernel) ?_
        refine vx_icmp_eq (off := 7) (q := 99) (t := 103) (by decide +kernel) hr29 (by decide) (fun c30 => ?_) (fun c30 => ?_)
        · replace H := H.1 c30
          refine vx_iconst (n := 0) (q := 104) (by decide +kernel) ?_
          refine vx_icmp_ne (off := 5) (q := 107) (t := 109) (by decide +kernel) (by decide) (by decide) (fun _ => ?_) (fun c => absurd c (by decide))
          refine vx_iload_n (n := 3) (q := 110) (by decide +kernel) rfl ?_
          refine vx_if0_eq (off := 27) (q := 113) (t := 137) (by decide +kernel) (by decide) (fun c => absurd c (by decide)) (fun _ => ?_)
          refine vx_aload_n (n := 0) (q := 114) (by decide +kernel) rfl ?_
          obtain ⟨b31, eb31, ob31, H⟩ := H
          refine vx_getR (b := b31) (idx := 35) (kd := 1) (s := 3) (fin := false) (q := 117) (by decide +kernel) (vx_Tk hT29 (by decide +kernel)) eb31 ?_
          refine vx_getR (b := vx_r b31 5) (idx := 87) (kd := 5) (s := 5) (fin := true) (q := 120) (by decide +kernel) (vx_Tk hT29 ob31) (vx_Tr hT29 (kd := 5) ob31 (by decide +kernel) (vx_f5_5 ob31).1) ?_
          refine vx_getI (idx := 98) (kd := 6) (s := 4) (fin := false) (q := 123) (by decide +kernel) (vx_Tk hT29 (vx_f5_5 ob31).2) ?_
          refine vx_sipush (n := 200) (q := 126) (by decide +kernel) ?_
          refine vx_icmp_lt (off := 11) (q := 129) (t := 137) (by decide +kernel) (vx_rI_J h29 (vx_r b31 5) 4) (by decide) (fun c32 => ?_) (fun c32 => ?_)
          · replace H := H.1 c32
            refine vx_iload_n (n := 3) (q := 138) (by decide +kernel) rfl ?_
            refine vx_if0_eq (off := 24) (q := 141) (t := 162) (by decide +kernel) (by decide) (fun c => absurd c (by decide)) (fun _ => ?_)
            refine vx_aload_n (n := 0) (q := 142) (by decide +kernel) rfl ?_
            refine vx_getR (b := b31) (idx := 35) (kd := 1) (s := 3) (fin := false) (q := 145) (by decide +kernel) (vx_Tk hT29 (by decide +kernel)) eb31 ?_
            refine vx_getR (b := vx_r b31 5) (idx := 87) (kd := 5) (s := 5) (fin := true) (q := 148) (by decide +kernel) (vx_Tk hT29 ob31) (vx_Tr hT29 (kd := 5) ob31 (by decide +kernel) (vx_f5_5 ob31).1) ?_
            refine vx_aload_n (n := 0) (q := 149) (by decide +kernel) rfl ?_
            refine vx_getR (b := 7) (idx := 21) (kd := 1) (s := 1) (fin := true) (q := 152) (by decide +kernel) (vx_Tk hT29 (by decide +kernel)) (vx_Tr hT29 (kd := 1) (by decide +kernel) (by decide +kernel) (by decide +kernel)) ?_
            refine vx_getR (b := 18) (idx := 90) (kd := 3) (s := 3) (fin := true) (q := 155) (by decide +kernel) (vx_Tk hT29 (by decide +kernel)) (vx_Tr hT29 (kd := 3) (by decide +kernel) (by decide +kernel) (by decide +kernel)) ?_
            refine vx_callI (i := .invokevirtual 104) (how := 3) (cm := 174) (np := 2) (q := 158) (args := [.ref (vx_r b31 5), .ref 18]) (rest := []) (by decide +kernel) rfl rfl rfl (vx_w2 (w := 2) (ml := 3) rfl (by decide +kernel)) (vx_rcv (kd := 6) (vx_Tk hT29 (vx_f5_5 ob31).2) (by decide +kernel)) H (fun r33 h33 hr33 hs33 H => ?_)
            have hT33 := vx_Tsh hT29 hs33
            replace H := H hT33
            refine vx_popI (q := 159) (by decide +kernel) ?_
            refine vx_goto (off := 14) (q := 162) (t := 173) (by decide +kernel) ?_
            refine vx_aload_n (n := 0) (q := 174) (by decide +kernel) rfl ?_
            refine vx_iconst (n := 0) (q := 175) (by decide +kernel) ?_
            refine vx_putI (idx := 54) (kd := 1) (s := 8) (fin := false) (q := 178) (by decide +kernel) (vx_Tk hT33 (by decide +kernel)) (fun h34 e34 => ?_)
            have hT34 := vx_TJ hT33 e34
            replace H := H h34 e34 hT34
            refine vx_iconst (n := 1) (q := 179) (by decide +kernel) ?_
            refine vx_retZQ (q := 180) (by decide +kernel) (Or.inr rfl) ?_
            exact vx_RXi (by decide) H
          · replace H := H.2 c32
            obtain ⟨k36, H⟩ := H
            refine vx_new (idx := 101) (kd := 11) (z := 6) (q := 132) (by decide +kernel) k36 (fun h35 e35 => ?_)
            have hT35 := vx_Tnew hT29 e35
            have kn35 : ve_k h35 (ve_n h29) = 11 := by rw [e35, ve_k_new, if_pos rfl]
            replace H := H h35 e35 hT35
            refine vx_dupR (q := 133) (by decide +kernel) ?_
            refine vx_xinit (i := .invokespecial 103) (np := 1) (cm := 11) (q := 136) (by decide +kernel) kn35 rfl ?_
            refine vx_throw (q := 137) (by decide +kernel) (by rw [kn35]; decide) ?_
            exact vx_RXx kn35 H
        · replace H := H.2 c30
          refine vx_iconst (n := 1) (q := 100) (by decide +kernel) ?_
          refine vx_goto (off := 4) (q := 103) (t := 104) (by decide +kernel) ?_
          refine vx_icmp_ne (off := 5) (q := 107) (t := 109) (by decide +kernel) (by decide) (by decide) (fun c => absurd c (by decide)) (fun _ => ?_)
          refine vx_iconst (n := 0) (q := 108) (by decide +kernel) ?_
          refine vx_retZQ (q := 109) (by decide +kernel) (Or.inl rfl) ?_
          exact vx_RXi (by decide) H
      · replace H := H.2 c27
        obtain ⟨k38, H⟩ := H
        refine vx_new (idx := 72) (kd := 10) (z := 6) (q := 59) (by decide +kernel) k38 (fun h37 e37 => ?_)
        have hT37 := vx_Tnew hT26 e37
        have kn37 : ve_k h37 (ve_n h26) = 10 := by rw [e37, ve_k_new, if_pos rfl]
        replace H := H h37 e37 hT37
        refine vx_dupR (q := 60) (by decide +kernel) ?_
        refine vx_xinit (i := .invokespecial 74) (np := 1) (cm := 10) (q := 63) (by decide +kernel) kn37 rfl ?_
        refine vx_throw (q := 64) (by decide +kernel) (by rw [kn37]; decide) ?_
        exact vx_RXx kn37 H
    · replace H := H.2 c23
      refine vx_aload_n (n := 0) (q := 10) (by decide +kernel) rfl ?_
      refine vx_getR (b := 2) (idx := 12) (kd := 1) (s := 0) (fin := true) (q := 13) (by decide +kernel) (vx_Tk hT (by decide +kernel)) (vx_Tr hT (kd := 1) (by decide +kernel) (by decide +kernel) (by decide +kernel)) ?_
      refine vx_callV (i := .invokevirtual 78) (how := 3) (cm := 193) (np := 1) (q := 16) (args := [.ref 2]) (rest := []) (by decide +kernel) rfl rfl rfl (vx_w2 (w := 1) (ml := 1) rfl (by decide +kernel)) (vx_rcv (kd := 2) (vx_Tk hT (by decide +kernel)) (by decide +kernel)) H (fun h39 hs39 H => ?_)
      have hT39 := vx_Tsh hT hs39
      replace H := H hT39
      refine vx_aload_n (n := 0) (q := 17) (by decide +kernel) rfl ?_
      refine vx_iconst (n := 0) (q := 18) (by decide +kernel) ?_
      refine vx_putI (idx := 69) (kd := 1) (s := 11) (fin := false) (q := 21) (by decide +kernel) (vx_Tk hT39 (by decide +kernel)) (fun h40 e40 => ?_)
      have hT40 := vx_TJ hT39 e40
      replace H := H h40 e40 hT40
      refine vx_aload_n (n := 0) (q := 22) (by decide +kernel) rfl ?_
      refine vx_iconst (n := 0) (q := 23) (by decide +kernel) ?_
      refine vx_putI (idx := 81) (kd := 1) (s := 12) (fin := false) (q := 26) (by decide +kernel) (vx_Tk hT40 (by decide +kernel)) (fun h41 e41 => ?_)
      have hT41 := vx_TJ hT40 e41
      replace H := H h41 e41 hT41
      obtain ⟨k43, H⟩ := H
      refine vx_new (idx := 72) (kd := 10) (z := 6) (q := 29) (by decide +kernel) k43 (fun h42 e42 => ?_)
      have hT42 := vx_Tnew hT41 e42
      have kn42 : ve_k h42 (ve_n h41) = 10 := by rw [e42, ve_k_new, if_pos rfl]
      replace H := H h42 e42 hT42
      refine vx_dupR (q := 30) (by decide +kernel) ?_
      refine vx_xinit (i := .invokespecial 74) (np := 1) (cm := 10) (q := 33) (by decide +kernel) kn42 rfl ?_
      refine vx_throw (q := 34) (by decide +kernel) (by rw [kn42]; decide) ?_
      exact vx_RXx kn42 H
-- RuleHouse.fault(I)I
theorem vg_4 {d : Nat} {h : ve_H} {P : Int → ve_H → Prop} {x1 : Int} (hT : vx_T 1 625 h) (H : (vx_rI x1) ∧ ((x1 ≠ 0 → ((x1 ≠ 1 → P ((-1)) h) ∧ (x1 = 1 → P (vx_J h 1 12) h))) ∧ (x1 = 0 → P (vx_J h 1 11) h))) : vx_CI d 4 [.ref 1, .int (vx_i x1)] h P := by
  refine vx_enter (ml := 2) (by decide +kernel) ?_
  show vx_W _ _ 0 [some (.ref 1), some (.int (vx_i x1))] [] h _
  refine vx_iload_n (n := 1) (q := 1) (by decide +kernel) rfl ?_
  obtain ⟨k1, H⟩ := H
  refine vx_if0_ne (off := 8) (q := 4) (t := 9) (by decide +kernel) k1 (fun c2 => ?_) (fun c2 => ?_)
  · replace H := H.1 c2
    refine vx_iload_n (n := 1) (q := 10) (by decide +kernel) rfl ?_
    refine vx_iconst (n := 1) (q := 11) (by decide +kernel) ?_
    refine vx_icmp_ne (off := 10) (q := 14) (t := 21) (by decide +kernel) k1 (by decide) (fun c3 => ?_) (fun c3 => ?_)
    · replace H := H.1 c3
      refine vx_iconst (n := (-1)) (q := 22) (by decide +kernel) ?_
      refine vx_retI (q := 23) (by decide +kernel) (by decide) ?_
      exact H
    · replace H := H.2 c3
      refine vx_aload_n (n := 0) (q := 15) (by decide +kernel) rfl ?_
      refine vx_getI (idx := 81) (kd := 1) (s := 12) (fin := false) (q := 18) (by decide +kernel) (vx_Tk hT (by decide +kernel)) ?_
      refine vx_goto (off := 4) (q := 21) (t := 22) (by decide +kernel) ?_
      refine vx_retI (q := 23) (by decide +kernel) (vx_rI_J h 1 12) ?_
      exact H
  · replace H := H.2 c2
    refine vx_aload_n (n := 0) (q := 5) (by decide +kernel) rfl ?_
    refine vx_getI (idx := 69) (kd := 1) (s := 11) (fin := false) (q := 8) (by decide +kernel) (vx_Tk hT (by decide +kernel)) ?_
    refine vx_retI (q := 9) (by decide +kernel) (vx_rI_J h 1 11) ?_
    exact H
-- RuleHouse.solve()I
theorem vg_5 {d : Nat} {h : ve_H} {P : Int → ve_H → Prop} {X : Nat → ve_H → Prop}  (hT : vx_T 1 625 h) (H : (((vx_J h 1 8) ≠ 0 → (((vx_J h 1 8) ≠ 2 → P (vx_J h 23 4) h) ∧ ((vx_J h 1 8) = 2 → (ve_rk h 6 = true) ∧ (∀ h3, h3 = ve_new h 11 6 → vx_T 1 625 h3 → X 11 h3)))) ∧ ((vx_J h 1 8) = 0 → (((vx_J h 1 9) < 40 → (∀ h6, h6 = vx_sJ h 1 9 ((vx_J h 1 9) + 1) → vx_T 1 625 h6 → (∃ b7, ve_R h6 1 3 = some b7 ∧ vx_o 1 625 5 b7 ∧ vx_CI d 105 [.ref 21, .ref b7] h6 (fun r8 h8 => vx_T 1 625 h8 → ((r8 = 0 → (∀ h10, h10 = vx_sJ h8 1 8 2 → vx_T 1 625 h10 → (ve_rk h10 6 = true) ∧ (∀ h11, h11 = ve_new h10 11 6 → vx_T 1 625 h11 → X 11 h11))) ∧ (r8 ≠ 0 → (∀ h13, h13 = vx_sJ h8 1 8 1 → vx_T 1 625 h13 → P (vx_J h13 23 4) h13))))))) ∧ (40 ≤ (vx_J h 1 9) → (ve_rk h 6 = true) ∧ (∀ h14, h14 = ve_new h 11 6 → vx_T 1 625 h14 → X 11 h14)))))) : vx_CX (d + 1) 5 [.ref 1] h P X := by
  refine vx_enter (ml := 1) (by decide +kernel) ?_
  show vx_W _ _ 0 [some (.ref 1)] [] h _
  refine vx_aload_n (n := 0) (q := 1) (by decide +kernel) rfl ?_
  refine vx_getI (idx := 54) (kd := 1) (s := 8) (fin := false) (q := 4) (by decide +kernel) (vx_Tk hT (by decide +kernel)) ?_
  refine vx_if0_ne (off := 53) (q := 7) (t := 57) (by decide +kernel) (vx_rI_J h 1 8) (fun c1 => ?_) (fun c1 => ?_)
  · replace H := H.1 c1
    refine vx_aload_n (n := 0) (q := 58) (by decide +kernel) rfl ?_
    refine vx_getI (idx := 54) (kd := 1) (s := 8) (fin := false) (q := 61) (by decide +kernel) (vx_Tk hT (by decide +kernel)) ?_
    refine vx_iconst (n := 2) (q := 62) (by decide +kernel) ?_
    refine vx_icmp_ne (off := 11) (q := 65) (t := 73) (by decide +kernel) (vx_rI_J h 1 8) (by decide) (fun c2 => ?_) (fun c2 => ?_)
    · replace H := H.1 c2
      refine vx_aload_n (n := 0) (q := 74) (by decide +kernel) rfl ?_
      refine vx_getR (b := 21) (idx := 28) (kd := 1) (s := 2) (fin := true) (q := 77) (by decide +kernel) (vx_Tk hT (by decide +kernel)) (vx_Tr hT (kd := 1) (by decide +kernel) (by decide +kernel) (by decide +kernel)) ?_
      refine vx_getR (b := 22) (idx := 117) (kd := 4) (s := 0) (fin := true) (q := 80) (by decide +kernel) (vx_Tk hT (by decide +kernel)) (vx_Tr hT (kd := 4) (by decide +kernel) (by decide +kernel) (by decide +kernel)) ?_
      refine vx_getR (b := 23) (idx := 121) (kd := 8) (s := 0) (fin := true) (q := 83) (by decide +kernel) (vx_Tk hT (by decide +kernel)) (vx_Tr hT (kd := 8) (by decide +kernel) (by decide +kernel) (by decide +kernel)) ?_
      refine vx_getI (idx := 98) (kd := 6) (s := 4) (fin := false) (q := 86) (by decide +kernel) (vx_Tk hT (by decide +kernel)) ?_
      refine vx_retIQ (q := 87) (by decide +kernel) ?_
      exact vx_RXi (vx_rI_J h 23 4) H
    · replace H := H.2 c2
      obtain ⟨k4, H⟩ := H
      refine vx_new (idx := 101) (kd := 11) (z := 6) (q := 68) (by decide +kernel) k4 (fun h3 e3 => ?_)
      have hT3 := vx_Tnew hT e3
      have kn3 : ve_k h3 (ve_n h) = 11 := by rw [e3, ve_k_new, if_pos rfl]
      replace H := H h3 e3 hT3
      refine vx_dupR (q := 69) (by decide +kernel) ?_
      refine vx_xinit (i := .invokespecial 103) (np := 1) (cm := 11) (q := 72) (by decide +kernel) kn3 rfl ?_
      refine vx_throw (q := 73) (by decide +kernel) (by rw [kn3]; decide) ?_
      exact vx_RXx kn3 H
  · replace H := H.2 c1
    refine vx_aload_n (n := 0) (q := 8) (by decide +kernel) rfl ?_
    refine vx_getI (idx := 110) (kd := 1) (s := 9) (fin := false) (q := 11) (by decide +kernel) (vx_Tk hT (by decide +kernel)) ?_
    refine vx_bipush (n := 40) (q := 13) (by decide +kernel) ?_
    refine vx_icmp_lt (off := 11) (q := 16) (t := 24) (by decide +kernel) (vx_rI_J h 1 9) (by decide) (fun c5 => ?_) (fun c5 => ?_)
    · replace H := H.1 c5
      refine vx_aload_n (n := 0) (q := 25) (by decide +kernel) rfl ?_
      refine vx_dupR (q := 26) (by decide +kernel) ?_
      refine vx_getI (idx := 110) (kd := 1) (s := 9) (fin := false) (q := 29) (by decide +kernel) (vx_Tk hT (by decide +kernel)) ?_
      refine vx_iconst (n := 1) (q := 30) (by decide +kernel) ?_
      refine vx_iadd (q := 31) (by decide +kernel) ?_
      refine vx_putI (idx := 110) (kd := 1) (s := 9) (fin := false) (q := 34) (by decide +kernel) (vx_Tk hT (by decide +kernel)) (fun h6 e6 => ?_)
      have hT6 := vx_TJ hT e6
      replace H := H h6 e6 hT6
      refine vx_aload_n (n := 0) (q := 35) (by decide +kernel) rfl ?_
      refine vx_aload_n (n := 0) (q := 36) (by decide +kernel) rfl ?_
      refine vx_getR (b := 21) (idx := 28) (kd := 1) (s := 2) (fin := true) (q := 39) (by decide +kernel) (vx_Tk hT6 (by decide +kernel)) (vx_Tr hT6 (kd := 1) (by decide +kernel) (by decide +kernel) (by decide +kernel)) ?_
      refine vx_aload_n (n := 0) (q := 40) (by decide +kernel) rfl ?_
      obtain ⟨b7, eb7, ob7, H⟩ := H
      refine vx_getR (b := b7) (idx := 35) (kd := 1) (s := 3) (fin := false) (q := 43) (by decide +kernel) (vx_Tk hT6 (by decide +kernel)) eb7 ?_
      refine vx_callI (i := .invokevirtual 113) (how := 3) (cm := 105) (np := 2) (q := 46) (args := [.ref 21, .ref b7]) (rest := [.ref 1]) (by decide +kernel) rfl rfl rfl (vx_w2 (w := 2) (ml := 6) rfl (by decide +kernel)) (vx_rcv (kd := 4) (vx_Tk hT6 (by decide +kernel)) (by decide +kernel)) H (fun r8 h8 hr8 hs8 H => ?_)
      have hT8 := vx_Tsh hT6 hs8
      replace H := H hT8
      refine vx_if0_eq (off := 7) (q := 49) (t := 53) (by decide +kernel) hr8 (fun c9 => ?_) (fun c9 => ?_)
      · replace H := H.1 c9
        refine vx_iconst (n := 2) (q := 54) (by decide +kernel) ?_
        refine vx_putI (idx := 54) (kd := 1) (s := 8) (fin := false) (q := 57) (by decide +kernel) (vx_Tk hT8 (by decide +kernel)) (fun h10 e10 => ?_)
        have hT10 := vx_TJ hT8 e10
        replace H := H h10 e10 hT10
        refine vx_aload_n (n := 0) (q := 58) (by decide +kernel) rfl ?_
        refine vx_getI (idx := 54) (kd := 1) (s := 8) (fin := false) (q := 61) (by decide +kernel) (vx_Tk hT10 (by decide +kernel)) ?_
        rw [(vx_Jsm e10 (by decide))]
        refine vx_iconst (n := 2) (q := 62) (by decide +kernel) ?_
        refine vx_icmp_ne (off := 11) (q := 65) (t := 73) (by decide +kernel) (by decide) (by decide) (fun c => absurd c (by decide)) (fun _ => ?_)
        obtain ⟨k12, H⟩ := H
        refine vx_new (idx := 101) (kd := 11) (z := 6) (q := 68) (by decide +kernel) k12 (fun h11 e11 => ?_)
        have hT11 := vx_Tnew hT10 e11
        have kn11 : ve_k h11 (ve_n h10) = 11 := by rw [e11, ve_k_new, if_pos rfl]
        replace H := H h11 e11 hT11
        refine vx_dupR (q := 69) (by decide +kernel) ?_
        refine vx_xinit (i := .invokespecial 103) (np := 1) (cm := 11) (q := 72) (by decide +kernel) kn11 rfl ?_
        refine vx_throw (q := 73) (by decide +kernel) (by rw [kn11]; decide) ?_
        exact vx_RXx kn11 H
      · replace H := H.2 c9
        refine vx_iconst (n := 1) (q := 50) (by decide +kernel) ?_
        refine vx_goto (off := 4) (q := 53) (t := 54) (by decide +kernel) ?_
        refine vx_putI (idx := 54) (kd := 1) (s := 8) (fin := false) (q := 57) (by decide +kernel) (vx_Tk hT8 (by decide +kernel)) (fun h13 e13 => ?_)
        have hT13 := vx_TJ hT8 e13
        replace H := H h13 e13 hT13
        refine vx_aload_n (n := 0) (q := 58) (by decide +kernel) rfl ?_
        refine vx_getI (idx := 54) (kd := 1) (s := 8) (fin := false) (q := 61) (by decide +kernel) (vx_Tk hT13 (by decide +kernel)) ?_
        rw [(vx_Jsm e13 (by decide))]
        refine vx_iconst (n := 2) (q := 62) (by decide +kernel) ?_
        refine vx_icmp_ne (off := 11) (q := 65) (t := 73) (by decide +kernel) (by decide) (by decide) (fun _ => ?_) (fun c => absurd c (by decide))
        refine vx_aload_n (n := 0) (q := 74) (by decide +kernel) rfl ?_
        refine vx_getR (b := 21) (idx := 28) (kd := 1) (s := 2) (fin := true) (q := 77) (by decide +kernel) (vx_Tk hT13 (by decide +kernel)) (vx_Tr hT13 (kd := 1) (by decide +kernel) (by decide +kernel) (by decide +kernel)) ?_
        refine vx_getR (b := 22) (idx := 117) (kd := 4) (s := 0) (fin := true) (q := 80) (by decide +kernel) (vx_Tk hT13 (by decide +kernel)) (vx_Tr hT13 (kd := 4) (by decide +kernel) (by decide +kernel) (by decide +kernel)) ?_
        refine vx_getR (b := 23) (idx := 121) (kd := 8) (s := 0) (fin := true) (q := 83) (by decide +kernel) (vx_Tk hT13 (by decide +kernel)) (vx_Tr hT13 (kd := 8) (by decide +kernel) (by decide +kernel) (by decide +kernel)) ?_
        refine vx_getI (idx := 98) (kd := 6) (s := 4) (fin := false) (q := 86) (by decide +kernel) (vx_Tk hT13 (by decide +kernel)) ?_
        refine vx_retIQ (q := 87) (by decide +kernel) ?_
        exact vx_RXi (vx_rI_J h13 23 4) H
    · replace H := H.2 c5
      obtain ⟨k15, H⟩ := H
      refine vx_new (idx := 101) (kd := 11) (z := 6) (q := 19) (by decide +kernel) k15 (fun h14 e14 => ?_)
      have hT14 := vx_Tnew hT e14
      have kn14 : ve_k h14 (ve_n h) = 11 := by rw [e14, ve_k_new, if_pos rfl]
      replace H := H h14 e14 hT14
      refine vx_dupR (q := 20) (by decide +kernel) ?_
      refine vx_xinit (i := .invokespecial 103) (np := 1) (cm := 11) (q := 23) (by decide +kernel) kn14 rfl ?_
      refine vx_throw (q := 24) (by decide +kernel) (by rw [kn14]; decide) ?_
      exact vx_RXx kn14 H
-- RuleHouse.ask()I
theorem vg_6 {d : Nat} {h : ve_H} {P : Int → ve_H → Prop} {X : Nat → ve_H → Prop}  (hT : vx_T 1 625 h) (H : (∃ b1, ve_R h 1 3 = some b1 ∧ vx_o 1 625 5 b1 ∧ vx_CV d 147 [.ref 7, .ref b1] h (fun h2 => vx_T 1 625 h2 → vx_CV d 12 [.ref 1] h2 (fun h3 => vx_T 1 625 h3 → (((vx_J h3 1 11) = 0 → (((vx_J h3 1 8) ≠ 1 → (ve_rk h3 6 = true) ∧ (∀ h6, h6 = ve_new h3 11 6 → vx_T 1 625 h6 → X 11 h6)) ∧ ((vx_J h3 1 8) = 1 → (((vx_J h3 1 10) < 500 → (∃ b9, ve_R h3 1 3 = some b9 ∧ vx_o 1 625 5 b9 ∧ (∃ b10, ve_R h3 1 6 = some b10 ∧ vx_o 1 625 6 b10 ∧ vx_CI d 108 [.ref 21, .ref b9, .ref 8, .ref b10] h3 (fun r11 h11 => vx_T 1 625 h11 → ((r11 ≠ 0 → (∃ b13, ve_R h11 1 5 = some b13 ∧ vx_o 1 625 6 b13 ∧ (∃ b14, ve_R h11 1 6 = some b14 ∧ vx_o 1 625 6 b14 ∧ (∀ h15, h15 = ve_sR h11 1 5 (some b14) → vx_T 1 625 h15 → (∀ h16, h16 = ve_sR h15 1 6 (some b13) → vx_T 1 625 h16 → (∀ h17, h17 = vx_sJ h16 1 7 (vx_J h16 8 5) → vx_T 1 625 h17 → (∀ h18, h18 = vx_sJ h17 1 10 ((vx_J h17 1 10) + 1) → vx_T 1 625 h18 → P (vx_J h18 b14 4) h18))))))) ∧ (r11 = 0 → (ve_rk h11 6 = true) ∧ (∀ h19, h19 = ve_new h11 11 6 → vx_T 1 625 h19 → X 11 h19))))))) ∧ (500 ≤ (vx_J h3 1 10) → (ve_rk h3 6 = true) ∧ (∀ h21, h21 = ve_new h3 11 6 → vx_T 1 625 h21 → X 11 h21)))))) ∧ ((vx_J h3 1 11) ≠ 0 → (ve_rk h3 6 = true) ∧ (∀ h23, h23 = ve_new h3 10 6 → vx_T 1 625 h23 → X 10 h23))))))) : vx_CX (d + 1) 6 [.ref 1] h P X := by
  refine vx_enter (ml := 2) (by decide +kernel) ?_
  show vx_W _ _ 0 [some (.ref 1), none] [] h _
  refine vx_aload_n (n := 0) (q := 1) (by decide +kernel) rfl ?_
  refine vx_getR (b := 7) (idx := 21) (kd := 1) (s := 1) (fin := true) (q := 4) (by decide +kernel) (vx_Tk hT (by decide +kernel)) (vx_Tr hT (kd := 1) (by decide +kernel) (by decide +kernel) (by decide +kernel)) ?_
  refine vx_aload_n (n := 0) (q := 5) (by decide +kernel) rfl ?_
  obtain ⟨b1, eb1, ob1, H⟩ := H
  refine vx_getR (b := b1) (idx := 35) (kd := 1) (s := 3) (fin := false) (q := 8) (by decide +kernel) (vx_Tk hT (by decide +kernel)) eb1 ?_
  refine vx_callV (i := .invokevirtual 126) (how := 3) (cm := 147) (np := 2) (q := 11) (args := [.ref 7, .ref b1]) (rest := []) (by decide +kernel) rfl rfl rfl (vx_w2 (w := 2) (ml := 2) rfl (by decide +kernel)) (vx_rcv (kd := 3) (vx_Tk hT (by decide +kernel)) (by decide +kernel)) H (fun h2 hs2 H => ?_)
  have hT2 := vx_Tsh hT hs2
  replace H := H hT2
  refine vx_aload_n (n := 0) (q := 12) (by decide +kernel) rfl ?_
  refine vx_callV (i := .invokevirtual 66) (how := 3) (cm := 12) (np := 1) (q := 15) (args := [.ref 1]) (rest := []) (by decide +kernel) rfl rfl rfl (vx_w2 (w := 1) (ml := 1) rfl (by decide +kernel)) (vx_rcv (kd := 1) (vx_Tk hT2 (by decide +kernel)) (by decide +kernel)) H (fun h3 hs3 H => ?_)
  have hT3 := vx_Tsh hT2 hs3
  replace H := H hT3
  refine vx_aload_n (n := 0) (q := 16) (by decide +kernel) rfl ?_
  refine vx_getI (idx := 69) (kd := 1) (s := 11) (fin := false) (q := 19) (by decide +kernel) (vx_Tk hT3 (by decide +kernel)) ?_
  refine vx_if0_eq (off := 11) (q := 22) (t := 30) (by decide +kernel) (vx_rI_J h3 1 11) (fun c4 => ?_) (fun c4 => ?_)
  · replace H := H.1 c4
    refine vx_aload_n (n := 0) (q := 31) (by decide +kernel) rfl ?_
    refine vx_getI (idx := 54) (kd := 1) (s := 8) (fin := false) (q := 34) (by decide +kernel) (vx_Tk hT3 (by decide +kernel)) ?_
    refine vx_iconst (n := 1) (q := 35) (by decide +kernel) ?_
    refine vx_icmp_ne (off := 13) (q := 38) (t := 48) (by decide +kernel) (vx_rI_J h3 1 8) (by decide) (fun c5 => ?_) (fun c5 => ?_)
    · replace H := H.1 c5
      obtain ⟨k7, H⟩ := H
      refine vx_new (idx := 101) (kd := 11) (z := 6) (q := 51) (by decide +kernel) k7 (fun h6 e6 => ?_)
      have hT6 := vx_Tnew hT3 e6
      have kn6 : ve_k h6 (ve_n h3) = 11 := by rw [e6, ve_k_new, if_pos rfl]
      replace H := H h6 e6 hT6
      refine vx_dupR (q := 52) (by decide +kernel) ?_
      refine vx_xinit (i := .invokespecial 103) (np := 1) (cm := 11) (q := 55) (by decide +kernel) kn6 rfl ?_
      refine vx_throw (q := 56) (by decide +kernel) (by rw [kn6]; decide) ?_
      exact vx_RXx kn6 H
    · replace H := H.2 c5
      refine vx_aload_n (n := 0) (q := 39) (by decide +kernel) rfl ?_
      refine vx_getI (idx := 129) (kd := 1) (s := 10) (fin := false) (q := 42) (by decide +kernel) (vx_Tk hT3 (by decide +kernel)) ?_
      refine vx_sipush (n := 500) (q := 45) (by decide +kernel) ?_
      refine vx_icmp_lt (off := 11) (q := 48) (t := 56) (by decide +kernel) (vx_rI_J h3 1 10) (by decide) (fun c8 => ?_) (fun c8 => ?_)
      · replace H := H.1 c8
        refine vx_aload_n (n := 0) (q := 57) (by decide +kernel) rfl ?_
        refine vx_getR (b := 21) (idx := 28) (kd := 1) (s := 2) (fin := true) (q := 60) (by decide +kernel) (vx_Tk hT3 (by decide +kernel)) (vx_Tr hT3 (kd := 1) (by decide +kernel) (by decide +kernel) (by decide +kernel)) ?_
        refine vx_aload_n (n := 0) (q := 61) (by decide +kernel) rfl ?_
        obtain ⟨b9, eb9, ob9, H⟩ := H
        refine vx_getR (b := b9) (idx := 35) (kd := 1) (s := 3) (fin := false) (q := 64) (by decide +kernel) (vx_Tk hT3 (by decide +kernel)) eb9 ?_
        refine vx_aload_n (n := 0) (q := 65) (by decide +kernel) rfl ?_
        refine vx_getR (b := 7) (idx := 21) (kd := 1) (s := 1) (fin := true) (q := 68) (by decide +kernel) (vx_Tk hT3 (by decide +kernel)) (vx_Tr hT3 (kd := 1) (by decide +kernel) (by decide +kernel) (by decide +kernel)) ?_
        refine vx_getR (b := 8) (idx := 132) (kd := 3) (s := 1) (fin := true) (q := 71) (by decide +kernel) (vx_Tk hT3 (by decide +kernel)) (vx_Tr hT3 (kd := 3) (by decide +kernel) (by decide +kernel) (by decide +kernel)) ?_
        refine vx_aload_n (n := 0) (q := 72) (by decide +kernel) rfl ?_
        obtain ⟨b10, eb10, ob10, H⟩ := H
        refine vx_getR (b := b10) (idx := 51) (kd := 1) (s := 6) (fin := false) (q := 75) (by decide +kernel) (vx_Tk hT3 (by decide +kernel)) eb10 ?_
        refine vx_callI (i := .invokevirtual 136) (how := 3) (cm := 108) (np := 4) (q := 78) (args := [.ref 21, .ref b9, .ref 8, .ref b10]) (rest := []) (by decide +kernel) rfl rfl rfl (vx_w2 (w := 4) (ml := 4) rfl (by decide +kernel)) (vx_rcv (kd := 4) (vx_Tk hT3 (by decide +kernel)) (by decide +kernel)) H (fun r11 h11 hr11 hs11 H => ?_)
        have hT11 := vx_Tsh hT3 hs11
        replace H := H hT11
        refine vx_if0_ne (off := 11) (q := 81) (t := 89) (by decide +kernel) hr11 (fun c12 => ?_) (fun c12 => ?_)
        · replace H := H.1 c12
          refine vx_aload_n (n := 0) (q := 90) (by decide +kernel) rfl ?_
          obtain ⟨b13, eb13, ob13, H⟩ := H
          refine vx_getR (b := b13) (idx := 47) (kd := 1) (s := 5) (fin := false) (q := 93) (by decide +kernel) (vx_Tk hT11 (by decide +kernel)) eb13 ?_
          refine vx_astore_n (n := 1) (q := 94) (lv' := [some (.ref 1), some (.ref b13)]) (by decide +kernel) rfl ?_
          refine vx_aload_n (n := 0) (q := 95) (by decide +kernel) rfl ?_
          refine vx_aload_n (n := 0) (q := 96) (by decide +kernel) rfl ?_
          obtain ⟨b14, eb14, ob14, H⟩ := H
          refine vx_getR (b := b14) (idx := 51) (kd := 1) (s := 6) (fin := false) (q := 99) (by decide +kernel) (vx_Tk hT11 (by decide +kernel)) eb14 ?_
          refine vx_putR (idx := 47) (kd := 1) (s := 5) (fin := false) (q := 102) (by decide +kernel) (vx_Tk hT11 (by decide +kernel)) (fun h15 e15 => ?_)
          have hT15 := vx_TR hT11 e15 ⟨vx_Tk hT11 (kd := 1) (by decide +kernel), (by decide +kernel)⟩
          replace H := H h15 e15 hT15
          refine vx_aload_n (n := 0) (q := 103) (by decide +kernel) rfl ?_
          refine vx_aload_n (n := 1) (q := 104) (by decide +kernel) rfl ?_
          refine vx_putR (idx := 51) (kd := 1) (s := 6) (fin := false) (q := 107) (by decide +kernel) (vx_Tk hT15 (by decide +kernel)) (fun h16 e16 => ?_)
          have hT16 := vx_TR hT15 e16 ⟨vx_Tk hT15 (kd := 1) (by decide +kernel), (by decide +kernel)⟩
          replace H := H h16 e16 hT16
          refine vx_aload_n (n := 0) (q := 108) (by decide +kernel) rfl ?_
          refine vx_aload_n (n := 0) (q := 109) (by decide +kernel) rfl ?_
          refine vx_getR (b := 7) (idx := 21) (kd := 1) (s := 1) (fin := true) (q := 112) (by decide +kernel) (vx_Tk hT16 (by decide +kernel)) (vx_Tr hT16 (kd := 1) (by decide +kernel) (by decide +kernel) (by decide +kernel)) ?_
          refine vx_getR (b := 8) (idx := 132) (kd := 3) (s := 1) (fin := true) (q := 115) (by decide +kernel) (vx_Tk hT16 (by decide +kernel)) (vx_Tr hT16 (kd := 3) (by decide +kernel) (by decide +kernel) (by decide +kernel)) ?_
          refine vx_getI (idx := 140) (kd := 7) (s := 5) (fin := false) (q := 118) (by decide +kernel) (vx_Tk hT16 (by decide +kernel)) ?_
          refine vx_putI (idx := 145) (kd := 1) (s := 7) (fin := false) (q := 121) (by decide +kernel) (vx_Tk hT16 (by decide +kernel)) (fun h17 e17 => ?_)
          have hT17 := vx_TJ hT16 e17
          replace H := H h17 e17 hT17
          refine vx_aload_n (n := 0) (q := 122) (by decide +kernel) rfl ?_
          refine vx_dupR (q := 123) (by decide +kernel) ?_
          refine vx_getI (idx := 129) (kd := 1) (s := 10) (fin := false) (q := 126) (by decide +kernel) (vx_Tk hT17 (by decide +kernel)) ?_
          refine vx_iconst (n := 1) (q := 127) (by decide +kernel) ?_
          refine vx_iadd (q := 128) (by decide +kernel) ?_
          refine vx_putI (idx := 129) (kd := 1) (s := 10) (fin := false) (q := 131) (by decide +kernel) (vx_Tk hT17 (by decide +kernel)) (fun h18 e18 => ?_)
          have hT18 := vx_TJ hT17 e18
          replace H := H h18 e18 hT18
          refine vx_aload_n (n := 0) (q := 132) (by decide +kernel) rfl ?_
          refine vx_getR (b := b14) (idx := 47) (kd := 1) (s := 5) (fin := false) (q := 135) (by decide +kernel) (vx_Tk hT18 (by decide +kernel)) (vx_RtJ e18 (vx_RtJ e17 (vx_RtR e16 (by decide) (vx_Rsm e15)))) ?_
          refine vx_getI (idx := 98) (kd := 6) (s := 4) (fin := false) (q := 138) (by decide +kernel) (vx_Tk hT18 ob14) ?_
          refine vx_retIQ (q := 139) (by decide +kernel) ?_
          exact vx_RXi (vx_rI_J h18 b14 4) H
        · replace H := H.2 c12
          obtain ⟨k20, H⟩ := H
          refine vx_new (idx := 101) (kd := 11) (z := 6) (q := 84) (by decide +kernel) k20 (fun h19 e19 => ?_)
          have hT19 := vx_Tnew hT11 e19
          have kn19 : ve_k h19 (ve_n h11) = 11 := by rw [e19, ve_k_new, if_pos rfl]
          replace H := H h19 e19 hT19
          refine vx_dupR (q := 85) (by decide +kernel) ?_
          refine vx_xinit (i := .invokespecial 103) (np := 1) (cm := 11) (q := 88) (by decide +kernel) kn19 rfl ?_
          refine vx_throw (q := 89) (by decide +kernel) (by rw [kn19]; decide) ?_
          exact vx_RXx kn19 H
      · replace H := H.2 c8
        obtain ⟨k22, H⟩ := H
        refine vx_new (idx := 101) (kd := 11) (z := 6) (q := 51) (by decide +kernel) k22 (fun h21 e21 => ?_)
        have hT21 := vx_Tnew hT3 e21
        have kn21 : ve_k h21 (ve_n h3) = 11 := by rw [e21, ve_k_new, if_pos rfl]
        replace H := H h21 e21 hT21
        refine vx_dupR (q := 52) (by decide +kernel) ?_
        refine vx_xinit (i := .invokespecial 103) (np := 1) (cm := 11) (q := 55) (by decide +kernel) kn21 rfl ?_
        refine vx_throw (q := 56) (by decide +kernel) (by rw [kn21]; decide) ?_
        exact vx_RXx kn21 H
  · replace H := H.2 c4
    obtain ⟨k24, H⟩ := H
    refine vx_new (idx := 72) (kd := 10) (z := 6) (q := 25) (by decide +kernel) k24 (fun h23 e23 => ?_)
    have hT23 := vx_Tnew hT3 e23
    have kn23 : ve_k h23 (ve_n h3) = 10 := by rw [e23, ve_k_new, if_pos rfl]
    replace H := H h23 e23 hT23
    refine vx_dupR (q := 26) (by decide +kernel) ?_
    refine vx_xinit (i := .invokespecial 74) (np := 1) (cm := 10) (q := 29) (by decide +kernel) kn23 rfl ?_
    refine vx_throw (q := 30) (by decide +kernel) (by rw [kn23]; decide) ?_
    exact vx_RXx kn23 H
-- RuleHouse.answer(II)J
theorem vg_7 {d : Nat} {h : ve_H} {P : Int → ve_H → Prop} {X : Nat → ve_H → Prop} {x1 : Int} {x2 : Int} (hT : vx_T 1 625 h) (H : (vx_rI x1) ∧ ((x1 < 0 → (ve_rk h 6 = true) ∧ (∀ h3, h3 = ve_new h 12 6 → vx_T 1 625 h3 → X 12 h3)) ∧ (0 ≤ x1 → (∃ b5, ve_R h 1 5 = some b5 ∧ vx_o 1 625 6 b5 ∧ (((vx_J h b5 4) ≤ x1 → (ve_rk h 6 = true) ∧ (∀ h7, h7 = ve_new h 12 6 → vx_T 1 625 h7 → X 12 h7)) ∧ (x1 < (vx_J h b5 4) → (vx_rI x2) ∧ ((x2 < 0 → (ve_rk h 6 = true) ∧ (∀ h11, h11 = ve_new h 12 6 → vx_T 1 625 h11 → X 12 h11)) ∧ (0 ≤ x2 → ((x2 < (vx_J h 1 7) → vx_CL d 180 [.ref b5, .int (vx_i x1), .int (vx_i x2)] h (fun r14 h14 => vx_T 1 625 h14 → vx_CL d 14 [.long (vx_l r14)] h14 (fun r15 h15 => vx_T 1 625 h15 → P r15 h15))) ∧ ((vx_J h 1 7) ≤ x2 → (ve_rk h 6 = true) ∧ (∀ h16, h16 = ve_new h 12 6 → vx_T 1 625 h16 → X 12 h16))))))))))) : vx_CXL (d + 1) 7 [.ref 1, .int (vx_i x1), .int (vx_i x2)] h P X := by
  refine vx_enter (ml := 3) (by decide +kernel) ?_
  show vx_W _ _ 0 [some (.ref 1), some (.int (vx_i x1)), some (.int (vx_i x2))] [] h _
  refine vx_iload_n (n := 1) (q := 1) (by decide +kernel) rfl ?_
  obtain ⟨k1, H⟩ := H
  refine vx_if0_lt (off := 26) (q := 4) (t := 27) (by decide +kernel) k1 (fun c2 => ?_) (fun c2 => ?_)
  · replace H := H.1 c2
    obtain ⟨k4, H⟩ := H
    refine vx_new (idx := 148) (kd := 12) (z := 6) (q := 30) (by decide +kernel) k4 (fun h3 e3 => ?_)
    have hT3 := vx_Tnew hT e3
    have kn3 : ve_k h3 (ve_n h) = 12 := by rw [e3, ve_k_new, if_pos rfl]
    replace H := H h3 e3 hT3
    refine vx_dupR (q := 31) (by decide +kernel) ?_
    refine vx_xinit (i := .invokespecial 150) (np := 1) (cm := 12) (q := 34) (by decide +kernel) kn3 rfl ?_
    refine vx_throw (q := 35) (by decide +kernel) (by rw [kn3]; decide) ?_
    exact vx_RXLx kn3 H
  · replace H := H.2 c2
    refine vx_iload_n (n := 1) (q := 5) (by decide +kernel) rfl ?_
    refine vx_aload_n (n := 0) (q := 6) (by decide +kernel) rfl ?_
    obtain ⟨b5, eb5, ob5, H⟩ := H
    refine vx_getR (b := b5) (idx := 47) (kd := 1) (s := 5) (fin := false) (q := 9) (by decide +kernel) (vx_Tk hT (by decide +kernel)) eb5 ?_
    refine vx_getI (idx := 98) (kd := 6) (s := 4) (fin := false) (q := 12) (by decide +kernel) (vx_Tk hT ob5) ?_
    refine vx_icmp_ge (off := 15) (q := 15) (t := 27) (by decide +kernel) k1 (vx_rI_J h b5 4) (fun c6 => ?_) (fun c6 => ?_)
    · replace H := H.1 c6
      obtain ⟨k8, H⟩ := H
      refine vx_new (idx := 148) (kd := 12) (z := 6) (q := 30) (by decide +kernel) k8 (fun h7 e7 => ?_)
      have hT7 := vx_Tnew hT e7
      have kn7 : ve_k h7 (ve_n h) = 12 := by rw [e7, ve_k_new, if_pos rfl]
      replace H := H h7 e7 hT7
      refine vx_dupR (q := 31) (by decide +kernel) ?_
      refine vx_xinit (i := .invokespecial 150) (np := 1) (cm := 12) (q := 34) (by decide +kernel) kn7 rfl ?_
      refine vx_throw (q := 35) (by decide +kernel) (by rw [kn7]; decide) ?_
      exact vx_RXLx kn7 H
    · replace H := H.2 c6
      refine vx_iload_n (n := 2) (q := 16) (by decide +kernel) rfl ?_
      obtain ⟨k9, H⟩ := H
      refine vx_if0_lt (off := 11) (q := 19) (t := 27) (by decide +kernel) k9 (fun c10 => ?_) (fun c10 => ?_)
      · replace H := H.1 c10
        obtain ⟨k12, H⟩ := H
        refine vx_new (idx := 148) (kd := 12) (z := 6) (q := 30) (by decide +kernel) k12 (fun h11 e11 => ?_)
        have hT11 := vx_Tnew hT e11
        have kn11 : ve_k h11 (ve_n h) = 12 := by rw [e11, ve_k_new, if_pos rfl]
        replace H := H h11 e11 hT11
        refine vx_dupR (q := 31) (by decide +kernel) ?_
        refine vx_xinit (i := .invokespecial 150) (np := 1) (cm := 12) (q := 34) (by decide +kernel) kn11 rfl ?_
        refine vx_throw (q := 35) (by decide +kernel) (by rw [kn11]; decide) ?_
        exact vx_RXLx kn11 H
      · replace H := H.2 c10
        refine vx_iload_n (n := 2) (q := 20) (by decide +kernel) rfl ?_
        refine vx_aload_n (n := 0) (q := 21) (by decide +kernel) rfl ?_
        refine vx_getI (idx := 145) (kd := 1) (s := 7) (fin := false) (q := 24) (by decide +kernel) (vx_Tk hT (by decide +kernel)) ?_
        refine vx_icmp_lt (off := 11) (q := 27) (t := 35) (by decide +kernel) k9 (vx_rI_J h 1 7) (fun c13 => ?_) (fun c13 => ?_)
        · replace H := H.1 c13
          refine vx_aload_n (n := 0) (q := 36) (by decide +kernel) rfl ?_
          refine vx_getR (b := b5) (idx := 47) (kd := 1) (s := 5) (fin := false) (q := 39) (by decide +kernel) (vx_Tk hT (by decide +kernel)) eb5 ?_
          refine vx_iload_n (n := 1) (q := 40) (by decide +kernel) rfl ?_
          refine vx_iload_n (n := 2) (q := 41) (by decide +kernel) rfl ?_
          refine vx_callL (i := .invokevirtual 151) (how := 3) (cm := 180) (np := 3) (q := 44) (args := [.ref b5, .int (vx_i x1), .int (vx_i x2)]) (rest := []) (by decide +kernel) rfl rfl rfl (vx_w2 (w := 3) (ml := 3) rfl (by decide +kernel)) (vx_rcv (kd := 6) (vx_Tk hT ob5) (by decide +kernel)) H (fun r14 h14 hr14 hs14 H => ?_)
          have hT14 := vx_Tsh hT hs14
          replace H := H hT14
          refine vx_callL (i := .invokestatic 155) (how := 4) (cm := 14) (np := 1) (q := 47) (args := [.long (vx_l r14)]) (rest := []) (by decide +kernel) rfl rfl rfl (vx_w2 (w := 2) (ml := 2) rfl (by decide +kernel)) rfl H (fun r15 h15 hr15 hs15 H => ?_)
          have hT15 := vx_Tsh hT14 hs15
          replace H := H hT15
          refine vx_retLQ (q := 48) (by decide +kernel) ?_
          exact vx_RXl hr15 H
        · replace H := H.2 c13
          obtain ⟨k17, H⟩ := H
          refine vx_new (idx := 148) (kd := 12) (z := 6) (q := 30) (by decide +kernel) k17 (fun h16 e16 => ?_)
          have hT16 := vx_Tnew hT e16
          have kn16 : ve_k h16 (ve_n h) = 12 := by rw [e16, ve_k_new, if_pos rfl]
          replace H := H h16 e16 hT16
          refine vx_dupR (q := 31) (by decide +kernel) ?_
          refine vx_xinit (i := .invokespecial 150) (np := 1) (cm := 12) (q := 34) (by decide +kernel) kn16 rfl ?_
          refine vx_throw (q := 35) (by decide +kernel) (by rw [kn16]; decide) ?_
          exact vx_RXLx kn16 H
-- RuleHouse.total(I)I
theorem vg_8 {d : Nat} {h : ve_H} {P : Int → ve_H → Prop} {x1 : Int} (hT : vx_T 1 625 h) (H : (vx_rI x1) ∧ ((x1 = 0 → P (vx_J h 1 7) h) ∧ (x1 = 1 → (∃ b3, ve_R h 1 5 = some b3 ∧ vx_o 1 625 6 b3 ∧ P (vx_J h b3 4) h)) ∧ (x1 = 2 → (∃ b4, ve_R h 1 3 = some b4 ∧ vx_o 1 625 5 b4 ∧ P (vx_J h b4 6) h)) ∧ (x1 = 3 → (∃ b5, ve_R h 1 3 = some b5 ∧ vx_o 1 625 5 b5 ∧ P (vx_J h b5 7) h)) ∧ (x1 = 4 → (∃ b6, ve_R h 1 3 = some b6 ∧ vx_o 1 625 5 b6 ∧ P (vx_J h (vx_r b6 5) 4) h)) ∧ (x1 = 5 → P (vx_J h 1 8) h) ∧ (x1 = 6 → (((vx_J h 1 8) ≠ 1 → P 0 h) ∧ ((vx_J h 1 8) = 1 → P (vx_J h 23 4) h))) ∧ (x1 = 7 → (∃ b8, ve_R h 1 3 = some b8 ∧ vx_o 1 625 5 b8 ∧ P (vx_J h b8 8) h)) ∧ (x1 = 8 → P (vx_J h 1 9) h) ∧ (x1 ≠ 0 ∧ x1 ≠ 1 ∧ x1 ≠ 2 ∧ x1 ≠ 3 ∧ x1 ≠ 4 ∧ x1 ≠ 5 ∧ x1 ≠ 6 ∧ x1 ≠ 7 ∧ x1 ≠ 8 ∧ True → P ((-1)) h))) : vx_CI d 8 [.ref 1, .int (vx_i x1)] h P := by
  refine vx_enter (ml := 2) (by decide +kernel) ?_
  show vx_W _ _ 0 [some (.ref 1), some (.int (vx_i x1))] [] h _
  refine vx_iload_n (n := 1) (q := 1) (by decide +kernel) rfl ?_
  obtain ⟨k1, H⟩ := H
  refine vx_tsw (dd := 135) (lo := 0) (hi := 8) (offs := #[51, 56, 64, 72, 80, 91, 96, 122, 130]) (tl := [(0, 52), (1, 57), (2, 65), (3, 73), (4, 81), (5, 92), (6, 97), (7, 123), (8, 131)]) (td := 136) (q := 52) (by decide +kernel) k1 ⟨fun c2 => ?_, fun c2 => ?_, fun c2 => ?_, fun c2 => ?_, fun c2 => ?_, fun c2 => ?_, fun c2 => ?_, fun c2 => ?_, fun c2 => ?_, trivial⟩ (fun c2 => ?_)
  · replace H := H.1 c2
    refine vx_aload_n (n := 0) (q := 53) (by decide +kernel) rfl ?_
    refine vx_getI (idx := 145) (kd := 1) (s := 7) (fin := false) (q := 56) (by decide +kernel) (vx_Tk hT (by decide +kernel)) ?_
    refine vx_retI (q := 57) (by decide +kernel) (vx_rI_J h 1 7) ?_
    exact H
  · replace H := H.2.1 c2
    refine vx_aload_n (n := 0) (q := 58) (by decide +kernel) rfl ?_
    obtain ⟨b3, eb3, ob3, H⟩ := H
    refine vx_getR (b := b3) (idx := 47) (kd := 1) (s := 5) (fin := false) (q := 61) (by decide +kernel) (vx_Tk hT (by decide +kernel)) eb3 ?_
    refine vx_getI (idx := 98) (kd := 6) (s := 4) (fin := false) (q := 64) (by decide +kernel) (vx_Tk hT ob3) ?_
    refine vx_retI (q := 65) (by decide +kernel) (vx_rI_J h b3 4) ?_
    exact H
  · replace H := H.2.2.1 c2
    refine vx_aload_n (n := 0) (q := 66) (by decide +kernel) rfl ?_
    obtain ⟨b4, eb4, ob4, H⟩ := H
    refine vx_getR (b := b4) (idx := 35) (kd := 1) (s := 3) (fin := false) (q := 69) (by decide +kernel) (vx_Tk hT (by decide +kernel)) eb4 ?_
    refine vx_getI (idx := 159) (kd := 5) (s := 6) (fin := false) (q := 72) (by decide +kernel) (vx_Tk hT ob4) ?_
    refine vx_retI (q := 73) (by decide +kernel) (vx_rI_J h b4 6) ?_
    exact H
  · replace H := H.2.2.2.1 c2
    refine vx_aload_n (n := 0) (q := 74) (by decide +kernel) rfl ?_
    obtain ⟨b5, eb5, ob5, H⟩ := H
    refine vx_getR (b := b5) (idx := 35) (kd := 1) (s := 3) (fin := false) (q := 77) (by decide +kernel) (vx_Tk hT (by decide +kernel)) eb5 ?_
    refine vx_getI (idx := 75) (kd := 5) (s := 7) (fin := false) (q := 80) (by decide +kernel) (vx_Tk hT ob5) ?_
    refine vx_retI (q := 81) (by decide +kernel) (vx_rI_J h b5 7) ?_
    exact H
  · replace H := H.2.2.2.2.1 c2
    refine vx_aload_n (n := 0) (q := 82) (by decide +kernel) rfl ?_
    obtain ⟨b6, eb6, ob6, H⟩ := H
    refine vx_getR (b := b6) (idx := 35) (kd := 1) (s := 3) (fin := false) (q := 85) (by decide +kernel) (vx_Tk hT (by decide +kernel)) eb6 ?_
    refine vx_getR (b := vx_r b6 5) (idx := 87) (kd := 5) (s := 5) (fin := true) (q := 88) (by decide +kernel) (vx_Tk hT ob6) (vx_Tr hT (kd := 5) ob6 (by decide +kernel) (vx_f5_5 ob6).1) ?_
    refine vx_getI (idx := 98) (kd := 6) (s := 4) (fin := false) (q := 91) (by decide +kernel) (vx_Tk hT (vx_f5_5 ob6).2) ?_
    refine vx_retI (q := 92) (by decide +kernel) (vx_rI_J h (vx_r b6 5) 4) ?_
    exact H
  · replace H := H.2.2.2.2.2.1 c2
    refine vx_aload_n (n := 0) (q := 93) (by decide +kernel) rfl ?_
    refine vx_getI (idx := 54) (kd := 1) (s := 8) (fin := false) (q := 96) (by decide +kernel) (vx_Tk hT (by decide +kernel)) ?_
    refine vx_retI (q := 97) (by decide +kernel) (vx_rI_J h 1 8) ?_
    exact H
  · replace H := H.2.2.2.2.2.2.1 c2
    refine vx_aload_n (n := 0) (q := 98) (by decide +kernel) rfl ?_
    refine vx_getI (idx := 54) (kd := 1) (s := 8) (fin := false) (q := 101) (by decide +kernel) (vx_Tk hT (by decide +kernel)) ?_
    refine vx_iconst (n := 1) (q := 102) (by decide +kernel) ?_
    refine vx_icmp_ne (off := 19) (q := 105) (t := 121) (by decide +kernel) (vx_rI_J h 1 8) (by decide) (fun c7 => ?_) (fun c7 => ?_)
    · replace H := H.1 c7
      refine vx_iconst (n := 0) (q := 122) (by decide +kernel) ?_
      refine vx_retI (q := 123) (by decide +kernel) (by decide) ?_
      exact H
    · replace H := H.2 c7
      refine vx_aload_n (n := 0) (q := 106) (by decide +kernel) rfl ?_
      refine vx_getR (b := 21) (idx := 28) (kd := 1) (s := 2) (fin := true) (q := 109) (by decide +kernel) (vx_Tk hT (by decide +kernel)) (vx_Tr hT (kd := 1) (by decide +kernel) (by decide +kernel) (by decide +kernel)) ?_
      refine vx_getR (b := 22) (idx := 117) (kd := 4) (s := 0) (fin := true) (q := 112) (by decide +kernel) (vx_Tk hT (by decide +kernel)) (vx_Tr hT (kd := 4) (by decide +kernel) (by decide +kernel) (by decide +kernel)) ?_
      refine vx_getR (b := 23) (idx := 121) (kd := 8) (s := 0) (fin := true) (q := 115) (by decide +kernel) (vx_Tk hT (by decide +kernel)) (vx_Tr hT (kd := 8) (by decide +kernel) (by decide +kernel) (by decide +kernel)) ?_
      refine vx_getI (idx := 98) (kd := 6) (s := 4) (fin := false) (q := 118) (by decide +kernel) (vx_Tk hT (by decide +kernel)) ?_
      refine vx_goto (off := 4) (q := 121) (t := 122) (by decide +kernel) ?_
      refine vx_retI (q := 123) (by decide +kernel) (vx_rI_J h 23 4) ?_
      exact H
  · replace H := H.2.2.2.2.2.2.2.1 c2
    refine vx_aload_n (n := 0) (q := 124) (by decide +kernel) rfl ?_
    obtain ⟨b8, eb8, ob8, H⟩ := H
    refine vx_getR (b := b8) (idx := 35) (kd := 1) (s := 3) (fin := false) (q := 127) (by decide +kernel) (vx_Tk hT (by decide +kernel)) eb8 ?_
    refine vx_getI (idx := 162) (kd := 5) (s := 8) (fin := false) (q := 130) (by decide +kernel) (vx_Tk hT ob8) ?_
    refine vx_retI (q := 131) (by decide +kernel) (vx_rI_J h b8 8) ?_
    exact H
  · replace H := H.2.2.2.2.2.2.2.2.1 c2
    refine vx_aload_n (n := 0) (q := 132) (by decide +kernel) rfl ?_
    refine vx_getI (idx := 110) (kd := 1) (s := 9) (fin := false) (q := 135) (by decide +kernel) (vx_Tk hT (by decide +kernel)) ?_
    refine vx_retI (q := 136) (by decide +kernel) (vx_rI_J h 1 9) ?_
    exact H
  · replace H := H.2.2.2.2.2.2.2.2.2 c2
    refine vx_iconst (n := (-1)) (q := 137) (by decide +kernel) ?_
    refine vx_retI (q := 138) (by decide +kernel) (by decide) ?_
    exact H
-- RuleHouse.predicate(II)I
theorem vg_9 {d : Nat} {h : ve_H} {P : Int → ve_H → Prop} {x1 : Int} {x2 : Int} (hT : vx_T 1 625 h) (H : (vx_rI x1) ∧ ((x1 < 0 → P ((-1)) h) ∧ (0 ≤ x1 → (∃ b3, ve_R h 1 3 = some b3 ∧ vx_o 1 625 5 b3 ∧ ((x1 < (vx_J h b3 6) → (vx_rI x2) ∧ ((x2 = 0 → (0 ≤ x1 ∧ x1 < 16) ∧ P (vx_J h (vx_r b3 1) x1.toNat) h) ∧ (x2 = 1 → (0 ≤ x1 ∧ x1 < 16) ∧ P (vx_J h (vx_r b3 2) x1.toNat) h) ∧ (x2 = 2 → vx_CI d 138 [.ref b3, .int (vx_i x1)] h (fun r9 h9 => vx_T 1 625 h9 → P r9 h9)) ∧ (x2 = 3 → vx_CI d 177 [.ref (vx_r b3 5), .int (vx_i x1)] h (fun r10 h10 => vx_T 1 625 h10 → P r10 h10)) ∧ (x2 = 4 → vx_CI d 13 [.ref 1, .int (vx_i x1)] h (fun r11 h11 => vx_T 1 625 h11 → P r11 h11)) ∧ (x2 = 5 → (0 ≤ x1 ∧ x1 < 16) ∧ vx_CI d 15 [.long (vx_l (vx_K h (vx_r b3 0) x1.toNat))] h (fun r13 h13 => vx_T 1 625 h13 → P r13 h13)) ∧ (x2 ≠ 0 ∧ x2 ≠ 1 ∧ x2 ≠ 2 ∧ x2 ≠ 3 ∧ x2 ≠ 4 ∧ x2 ≠ 5 ∧ True → ((100 ≤ x2 → (0 ≤ x1 ∧ x1 < 16) ∧ vx_CI d 16 [.long (vx_l (vx_K h (vx_r b3 0) x1.toNat)), .int (vx_i (x2 - 100))] h (fun r16 h16 => vx_T 1 625 h16 → P r16 h16)) ∧ (x2 < 100 → P ((-1)) h))))) ∧ ((vx_J h b3 6) ≤ x1 → P ((-1)) h)))))) : vx_CI (d + 1) 9 [.ref 1, .int (vx_i x1), .int (vx_i x2)] h P := by
  refine vx_enter (ml := 3) (by decide +kernel) ?_
  show vx_W _ _ 0 [some (.ref 1), some (.int (vx_i x1)), some (.int (vx_i x2))] [] h _
  refine vx_iload_n (n := 1) (q := 1) (by decide +kernel) rfl ?_
  obtain ⟨k1, H⟩ := H
  refine vx_if0_lt (off := 14) (q := 4) (t := 15) (by decide +kernel) k1 (fun c2 => ?_) (fun c2 => ?_)
  · replace H := H.1 c2
    refine vx_iconst (n := (-1)) (q := 16) (by decide +kernel) ?_
    refine vx_retI (q := 17) (by decide +kernel) (by decide) ?_
    exact H
  · replace H := H.2 c2
    refine vx_iload_n (n := 1) (q := 5) (by decide +kernel) rfl ?_
    refine vx_aload_n (n := 0) (q := 6) (by decide +kernel) rfl ?_
    obtain ⟨b3, eb3, ob3, H⟩ := H
    refine vx_getR (b := b3) (idx := 35) (kd := 1) (s := 3) (fin := false) (q := 9) (by decide +kernel) (vx_Tk hT (by decide +kernel)) eb3 ?_
    refine vx_getI (idx := 159) (kd := 5) (s := 6) (fin := false) (q := 12) (by decide +kernel) (vx_Tk hT ob3) ?_
    refine vx_icmp_lt (off := 5) (q := 15) (t := 17) (by decide +kernel) k1 (vx_rI_J h b3 6) (fun c4 => ?_) (fun c4 => ?_)
    · replace H := H.1 c4
      refine vx_iload_n (n := 2) (q := 18) (by decide +kernel) rfl ?_
      obtain ⟨k5, H⟩ := H
      refine vx_tsw (dd := 98) (lo := 0) (hi := 5) (offs := #[38, 48, 58, 67, 79, 85]) (tl := [(0, 56), (1, 66), (2, 76), (3, 85), (4, 97), (5, 103)]) (td := 116) (q := 56) (by decide +kernel) k5 ⟨fun c6 => ?_, fun c6 => ?_, fun c6 => ?_, fun c6 => ?_, fun c6 => ?_, fun c6 => ?_, trivial⟩ (fun c6 => ?_)
      · replace H := H.1 c6
        refine vx_aload_n (n := 0) (q := 57) (by decide +kernel) rfl ?_
        refine vx_getR (b := b3) (idx := 35) (kd := 1) (s := 3) (fin := false) (q := 60) (by decide +kernel) (vx_Tk hT (by decide +kernel)) eb3 ?_
        refine vx_getR (b := vx_r b3 1) (idx := 165) (kd := 5) (s := 1) (fin := true) (q := 63) (by decide +kernel) (vx_Tk hT ob3) (vx_Tr hT (kd := 5) ob3 (by decide +kernel) (vx_f5_1 ob3).1) ?_
        refine vx_iload_n (n := 1) (q := 64) (by decide +kernel) rfl ?_
        obtain ⟨k7, H⟩ := H
        refine vx_iaload (z := 16) (q := 65) (by decide +kernel) (vx_Tk hT (vx_f5_1 ob3).2.1) (vx_Tz hT ⟨(vx_f5_1 ob3).2.1.1, (vx_f5_1 ob3).2.2⟩) (vx_ix k7 (by decide)) ?_
        refine vx_retI (q := 66) (by decide +kernel) (vx_rI_J h (vx_r b3 1) x1.toNat) ?_
        exact H
      · replace H := H.2.1 c6
        refine vx_aload_n (n := 0) (q := 67) (by decide +kernel) rfl ?_
        refine vx_getR (b := b3) (idx := 35) (kd := 1) (s := 3) (fin := false) (q := 70) (by decide +kernel) (vx_Tk hT (by decide +kernel)) eb3 ?_
        refine vx_getR (b := vx_r b3 2) (idx := 169) (kd := 5) (s := 2) (fin := true) (q := 73) (by decide +kernel) (vx_Tk hT ob3) (vx_Tr hT (kd := 5) ob3 (by decide +kernel) (vx_f5_2 ob3).1) ?_
        refine vx_iload_n (n := 1) (q := 74) (by decide +kernel) rfl ?_
        obtain ⟨k8, H⟩ := H
        refine vx_iaload (z := 16) (q := 75) (by decide +kernel) (vx_Tk hT (vx_f5_2 ob3).2.1) (vx_Tz hT ⟨(vx_f5_2 ob3).2.1.1, (vx_f5_2 ob3).2.2⟩) (vx_ix k8 (by decide)) ?_
        refine vx_retI (q := 76) (by decide +kernel) (vx_rI_J h (vx_r b3 2) x1.toNat) ?_
        exact H
      · replace H := H.2.2.1 c6
        refine vx_aload_n (n := 0) (q := 77) (by decide +kernel) rfl ?_
        refine vx_getR (b := b3) (idx := 35) (kd := 1) (s := 3) (fin := false) (q := 80) (by decide +kernel) (vx_Tk hT (by decide +kernel)) eb3 ?_
        refine vx_iload_n (n := 1) (q := 81) (by decide +kernel) rfl ?_
        refine vx_callI (i := .invokevirtual 172) (how := 3) (cm := 138) (np := 2) (q := 84) (args := [.ref b3, .int (vx_i x1)]) (rest := []) (by decide +kernel) rfl rfl rfl (vx_w2 (w := 2) (ml := 4) rfl (by decide +kernel)) (vx_rcv (kd := 5) (vx_Tk hT ob3) (by decide +kernel)) H (fun r9 h9 hr9 hs9 H => ?_)
        have hT9 := vx_Tsh hT hs9
        replace H := H hT9
        refine vx_retI (q := 85) (by decide +kernel) hr9 ?_
        exact H
      · replace H := H.2.2.2.1 c6
        refine vx_aload_n (n := 0) (q := 86) (by decide +kernel) rfl ?_
        refine vx_getR (b := b3) (idx := 35) (kd := 1) (s := 3) (fin := false) (q := 89) (by decide +kernel) (vx_Tk hT (by decide +kernel)) eb3 ?_
        refine vx_getR (b := vx_r b3 5) (idx := 87) (kd := 5) (s := 5) (fin := true) (q := 92) (by decide +kernel) (vx_Tk hT ob3) (vx_Tr hT (kd := 5) ob3 (by decide +kernel) (vx_f5_5 ob3).1) ?_
        refine vx_iload_n (n := 1) (q := 93) (by decide +kernel) rfl ?_
        refine vx_callI (i := .invokevirtual 176) (how := 3) (cm := 177) (np := 2) (q := 96) (args := [.ref (vx_r b3 5), .int (vx_i x1)]) (rest := []) (by decide +kernel) rfl rfl rfl (vx_w2 (w := 2) (ml := 4) rfl (by decide +kernel)) (vx_rcv (kd := 6) (vx_Tk hT (vx_f5_5 ob3).2) (by decide +kernel)) H (fun r10 h10 hr10 hs10 H => ?_)
        have hT10 := vx_Tsh hT hs10
        replace H := H hT10
        refine vx_retI (q := 97) (by decide +kernel) hr10 ?_
        exact H
      · replace H := H.2.2.2.2.1 c6
        refine vx_aload_n (n := 0) (q := 98) (by decide +kernel) rfl ?_
        refine vx_iload_n (n := 1) (q := 99) (by decide +kernel) rfl ?_
        refine vx_callI (i := .invokevirtual 179) (how := 3) (cm := 13) (np := 2) (q := 102) (args := [.ref 1, .int (vx_i x1)]) (rest := []) (by decide +kernel) rfl rfl rfl (vx_w2 (w := 2) (ml := 2) rfl (by decide +kernel)) (vx_rcv (kd := 1) (vx_Tk hT (by decide +kernel)) (by decide +kernel)) H (fun r11 h11 hr11 hs11 H => ?_)
        have hT11 := vx_Tsh hT hs11
        replace H := H hT11
        refine vx_retI (q := 103) (by decide +kernel) hr11 ?_
        exact H
      · replace H := H.2.2.2.2.2.1 c6
        refine vx_aload_n (n := 0) (q := 104) (by decide +kernel) rfl ?_
        refine vx_getR (b := b3) (idx := 35) (kd := 1) (s := 3) (fin := false) (q := 107) (by decide +kernel) (vx_Tk hT (by decide +kernel)) eb3 ?_
        refine vx_getR (b := vx_r b3 0) (idx := 182) (kd := 5) (s := 0) (fin := true) (q := 110) (by decide +kernel) (vx_Tk hT ob3) (vx_Tr hT (kd := 5) ob3 (by decide +kernel) (vx_f5_0 ob3).1) ?_
        refine vx_iload_n (n := 1) (q := 111) (by decide +kernel) rfl ?_
        obtain ⟨k12, H⟩ := H
        refine vx_laload (z := 16) (q := 112) (by decide +kernel) (vx_Tk hT (vx_f5_0 ob3).2.1) (vx_Tz hT ⟨(vx_f5_0 ob3).2.1.1, (vx_f5_0 ob3).2.2⟩) (vx_ix k12 (by decide)) ?_
        refine vx_callI (i := .invokestatic 185) (how := 4) (cm := 15) (np := 1) (q := 115) (args := [.long (vx_l (vx_K h (vx_r b3 0) x1.toNat))]) (rest := []) (by decide +kernel) rfl rfl rfl (vx_w2 (w := 2) (ml := 4) rfl (by decide +kernel)) rfl H (fun r13 h13 hr13 hs13 H => ?_)
        have hT13 := vx_Tsh hT hs13
        replace H := H hT13
        refine vx_retI (q := 116) (by decide +kernel) hr13 ?_
        exact H
      · replace H := H.2.2.2.2.2.2 c6
        refine vx_iload_n (n := 2) (q := 117) (by decide +kernel) rfl ?_
        refine vx_bipush (n := 100) (q := 119) (by decide +kernel) ?_
        refine vx_icmp_ge (off := 7) (q := 122) (t := 126) (by decide +kernel) k5 (by decide) (fun c14 => ?_) (fun c14 => ?_)
        · replace H := H.1 c14
          refine vx_aload_n (n := 0) (q := 127) (by decide +kernel) rfl ?_
          refine vx_getR (b := b3) (idx := 35) (kd := 1) (s := 3) (fin := false) (q := 130) (by decide +kernel) (vx_Tk hT (by decide +kernel)) eb3 ?_
          refine vx_getR (b := vx_r b3 0) (idx := 182) (kd := 5) (s := 0) (fin := true) (q := 133) (by decide +kernel) (vx_Tk hT ob3) (vx_Tr hT (kd := 5) ob3 (by decide +kernel) (vx_f5_0 ob3).1) ?_
          refine vx_iload_n (n := 1) (q := 134) (by decide +kernel) rfl ?_
          obtain ⟨k15, H⟩ := H
          refine vx_laload (z := 16) (q := 135) (by decide +kernel) (vx_Tk hT (vx_f5_0 ob3).2.1) (vx_Tz hT ⟨(vx_f5_0 ob3).2.1.1, (vx_f5_0 ob3).2.2⟩) (vx_ix k15 (by decide)) ?_
          refine vx_iload_n (n := 2) (q := 136) (by decide +kernel) rfl ?_
          refine vx_bipush (n := 100) (q := 138) (by decide +kernel) ?_
          refine vx_isub (q := 139) (by decide +kernel) ?_
          refine vx_callI (i := .invokestatic 189) (how := 4) (cm := 16) (np := 2) (q := 142) (args := [.long (vx_l (vx_K h (vx_r b3 0) x1.toNat)), .int (vx_i (x2 - 100))]) (rest := []) (by decide +kernel) rfl rfl rfl (vx_w2 (w := 3) (ml := 4) rfl (by decide +kernel)) rfl H (fun r16 h16 hr16 hs16 H => ?_)
          have hT16 := vx_Tsh hT hs16
          replace H := H hT16
          refine vx_retI (q := 143) (by decide +kernel) hr16 ?_
          exact H
        · replace H := H.2 c14
          refine vx_iconst (n := (-1)) (q := 123) (by decide +kernel) ?_
          refine vx_goto (off := 19) (q := 126) (t := 142) (by decide +kernel) ?_
          refine vx_retI (q := 143) (by decide +kernel) (by decide) ?_
          exact H
    · replace H := H.2 c4
      refine vx_iconst (n := (-1)) (q := 16) (by decide +kernel) ?_
      refine vx_retI (q := 17) (by decide +kernel) (by decide) ?_
      exact H
-- RuleHouse.tuple(III)J
theorem vg_10 {d : Nat} {h : ve_H} {P : Int → ve_H → Prop} {X : Nat → ve_H → Prop} {x1 : Int} {x2 : Int} {x3 : Int} (hT : vx_T 1 625 h) (H : (vx_rI x2) ∧ ((x2 < 0 → (ve_rk h 6 = true) ∧ (∀ h3, h3 = ve_new h 12 6 → vx_T 1 625 h3 → X 12 h3)) ∧ (0 ≤ x2 → vx_CI d 13 [.ref 1, .int (vx_i x1)] h (fun r5 h5 => vx_T 1 625 h5 → ((r5 ≤ x2 → (ve_rk h5 6 = true) ∧ (∀ h7, h7 = ve_new h5 12 6 → vx_T 1 625 h7 → X 12 h7)) ∧ (x2 < r5 → (vx_rI x3) ∧ ((x3 < 0 → (ve_rk h5 6 = true) ∧ (∀ h11, h11 = ve_new h5 12 6 → vx_T 1 625 h11 → X 12 h11)) ∧ (0 ≤ x3 → (∃ b13, ve_R h5 1 3 = some b13 ∧ vx_o 1 625 5 b13 ∧ (0 ≤ x1 ∧ x1 < 16) ∧ ((x3 < (vx_J h5 (vx_r b13 1) x1.toNat) → vx_CI d 133 [.ref 22, .int (vx_i x1)] h5 (fun r16 h16 => vx_T 1 625 h16 → vx_CL d 180 [.ref 23, .int (vx_i (r16 + x2)), .int (vx_i (x3 + 1))] h16 (fun r17 h17 => vx_T 1 625 h17 → vx_CL d 14 [.long (vx_l r17)] h17 (fun r18 h18 => vx_T 1 625 h18 → P r18 h18)))) ∧ ((vx_J h5 (vx_r b13 1) x1.toNat) ≤ x3 → (ve_rk h5 6 = true) ∧ (∀ h19, h19 = ve_new h5 12 6 → vx_T 1 625 h19 → X 12 h19)))))))))))) : vx_CXL (d + 1) 10 [.ref 1, .int (vx_i x1), .int (vx_i x2), .int (vx_i x3)] h P X := by
  refine vx_enter (ml := 4) (by decide +kernel) ?_
  show vx_W _ _ 0 [some (.ref 1), some (.int (vx_i x1)), some (.int (vx_i x2)), some (.int (vx_i x3))] [] h _
  refine vx_iload_n (n := 2) (q := 1) (by decide +kernel) rfl ?_
  obtain ⟨k1, H⟩ := H
  refine vx_if0_lt (off := 29) (q := 4) (t := 30) (by decide +kernel) k1 (fun c2 => ?_) (fun c2 => ?_)
  · replace H := H.1 c2
    obtain ⟨k4, H⟩ := H
    refine vx_new (idx := 148) (kd := 12) (z := 6) (q := 33) (by decide +kernel) k4 (fun h3 e3 => ?_)
    have hT3 := vx_Tnew hT e3
    have kn3 : ve_k h3 (ve_n h) = 12 := by rw [e3, ve_k_new, if_pos rfl]
    replace H := H h3 e3 hT3
    refine vx_dupR (q := 34) (by decide +kernel) ?_
    refine vx_xinit (i := .invokespecial 150) (np := 1) (cm := 12) (q := 37) (by decide +kernel) kn3 rfl ?_
    refine vx_throw (q := 38) (by decide +kernel) (by rw [kn3]; decide) ?_
    exact vx_RXLx kn3 H
  · replace H := H.2 c2
    refine vx_iload_n (n := 2) (q := 5) (by decide +kernel) rfl ?_
    refine vx_aload_n (n := 0) (q := 6) (by decide +kernel) rfl ?_
    refine vx_iload_n (n := 1) (q := 7) (by decide +kernel) rfl ?_
    refine vx_callI (i := .invokevirtual 179) (how := 3) (cm := 13) (np := 2) (q := 10) (args := [.ref 1, .int (vx_i x1)]) (rest := [.int (vx_i x2)]) (by decide +kernel) rfl rfl rfl (vx_w2 (w := 2) (ml := 2) rfl (by decide +kernel)) (vx_rcv (kd := 1) (vx_Tk hT (by decide +kernel)) (by decide +kernel)) H (fun r5 h5 hr5 hs5 H => ?_)
    have hT5 := vx_Tsh hT hs5
    replace H := H hT5
    refine vx_icmp_ge (off := 20) (q := 13) (t := 30) (by decide +kernel) k1 hr5 (fun c6 => ?_) (fun c6 => ?_)
    · replace H := H.1 c6
      obtain ⟨k8, H⟩ := H
      refine vx_new (idx := 148) (kd := 12) (z := 6) (q := 33) (by decide +kernel) k8 (fun h7 e7 => ?_)
      have hT7 := vx_Tnew hT5 e7
      have kn7 : ve_k h7 (ve_n h5) = 12 := by rw [e7, ve_k_new, if_pos rfl]
      replace H := H h7 e7 hT7
      refine vx_dupR (q := 34) (by decide +kernel) ?_
      refine vx_xinit (i := .invokespecial 150) (np := 1) (cm := 12) (q := 37) (by decide +kernel) kn7 rfl ?_
      refine vx_throw (q := 38) (by decide +kernel) (by rw [kn7]; decide) ?_
      exact vx_RXLx kn7 H
    · replace H := H.2 c6
      refine vx_iload_n (n := 3) (q := 14) (by decide +kernel) rfl ?_
      obtain ⟨k9, H⟩ := H
      refine vx_if0_lt (off := 16) (q := 17) (t := 30) (by decide +kernel) k9 (fun c10 => ?_) (fun c10 => ?_)
      · replace H := H.1 c10
        obtain ⟨k12, H⟩ := H
        refine vx_new (idx := 148) (kd := 12) (z := 6) (q := 33) (by decide +kernel) k12 (fun h11 e11 => ?_)
        have hT11 := vx_Tnew hT5 e11
        have kn11 : ve_k h11 (ve_n h5) = 12 := by rw [e11, ve_k_new, if_pos rfl]
        replace H := H h11 e11 hT11
        refine vx_dupR (q := 34) (by decide +kernel) ?_
        refine vx_xinit (i := .invokespecial 150) (np := 1) (cm := 12) (q := 37) (by decide +kernel) kn11 rfl ?_
        refine vx_throw (q := 38) (by decide +kernel) (by rw [kn11]; decide) ?_
        exact vx_RXLx kn11 H
      · replace H := H.2 c10
        refine vx_iload_n (n := 3) (q := 18) (by decide +kernel) rfl ?_
        refine vx_aload_n (n := 0) (q := 19) (by decide +kernel) rfl ?_
        obtain ⟨b13, eb13, ob13, H⟩ := H
        refine vx_getR (b := b13) (idx := 35) (kd := 1) (s := 3) (fin := false) (q := 22) (by decide +kernel) (vx_Tk hT5 (by decide +kernel)) eb13 ?_
        refine vx_getR (b := vx_r b13 1) (idx := 165) (kd := 5) (s := 1) (fin := true) (q := 25) (by decide +kernel) (vx_Tk hT5 ob13) (vx_Tr hT5 (kd := 5) ob13 (by decide +kernel) (vx_f5_1 ob13).1) ?_
        refine vx_iload_n (n := 1) (q := 26) (by decide +kernel) rfl ?_
        obtain ⟨k14, H⟩ := H
        refine vx_iaload (z := 16) (q := 27) (by decide +kernel) (vx_Tk hT5 (vx_f5_1 ob13).2.1) (vx_Tz hT5 ⟨(vx_f5_1 ob13).2.1.1, (vx_f5_1 ob13).2.2⟩) (vx_ix k14 (by decide)) ?_
        refine vx_icmp_lt (off := 11) (q := 30) (t := 38) (by decide +kernel) k9 (vx_rI_J h5 (vx_r b13 1) x1.toNat) (fun c15 => ?_) (fun c15 => ?_)
        · replace H := H.1 c15
          refine vx_aload_n (n := 0) (q := 39) (by decide +kernel) rfl ?_
          refine vx_getR (b := 21) (idx := 28) (kd := 1) (s := 2) (fin := true) (q := 42) (by decide +kernel) (vx_Tk hT5 (by decide +kernel)) (vx_Tr hT5 (kd := 1) (by decide +kernel) (by decide +kernel) (by decide +kernel)) ?_
          refine vx_getR (b := 22) (idx := 117) (kd := 4) (s := 0) (fin := true) (q := 45) (by decide +kernel) (vx_Tk hT5 (by decide +kernel)) (vx_Tr hT5 (kd := 4) (by decide +kernel) (by decide +kernel) (by decide +kernel)) ?_
          refine vx_getR (b := 23) (idx := 121) (kd := 8) (s := 0) (fin := true) (q := 48) (by decide +kernel) (vx_Tk hT5 (by decide +kernel)) (vx_Tr hT5 (kd := 8) (by decide +kernel) (by decide +kernel) (by decide +kernel)) ?_
          refine vx_aload_n (n := 0) (q := 49) (by decide +kernel) rfl ?_
          refine vx_getR (b := 21) (idx := 28) (kd := 1) (s := 2) (fin := true) (q := 52) (by decide +kernel) (vx_Tk hT5 (by decide +kernel)) (vx_Tr hT5 (kd := 1) (by decide +kernel) (by decide +kernel) (by decide +kernel)) ?_
          refine vx_getR (b := 22) (idx := 117) (kd := 4) (s := 0) (fin := true) (q := 55) (by decide +kernel) (vx_Tk hT5 (by decide +kernel)) (vx_Tr hT5 (kd := 4) (by decide +kernel) (by decide +kernel) (by decide +kernel)) ?_
          refine vx_iload_n (n := 1) (q := 56) (by decide +kernel) rfl ?_
          refine vx_callI (i := .invokevirtual 193) (how := 3) (cm := 133) (np := 2) (q := 59) (args := [.ref 22, .int (vx_i x1)]) (rest := [.ref 23]) (by decide +kernel) rfl rfl rfl (vx_w2 (w := 2) (ml := 4) rfl (by decide +kernel)) (vx_rcv (kd := 8) (vx_Tk hT5 (by decide +kernel)) (by decide +kernel)) H (fun r16 h16 hr16 hs16 H => ?_)
          have hT16 := vx_Tsh hT5 hs16
          replace H := H hT16
          refine vx_iload_n (n := 2) (q := 60) (by decide +kernel) rfl ?_
          refine vx_iadd (q := 61) (by decide +kernel) ?_
          refine vx_iload_n (n := 3) (q := 62) (by decide +kernel) rfl ?_
          refine vx_iconst (n := 1) (q := 63) (by decide +kernel) ?_
          refine vx_iadd (q := 64) (by decide +kernel) ?_
          refine vx_callL (i := .invokevirtual 151) (how := 3) (cm := 180) (np := 3) (q := 67) (args := [.ref 23, .int (vx_i (r16 + x2)), .int (vx_i (x3 + 1))]) (rest := []) (by decide +kernel) rfl rfl rfl (vx_w2 (w := 3) (ml := 3) rfl (by decide +kernel)) (vx_rcv (kd := 6) (vx_Tk hT16 (by decide +kernel)) (by decide +kernel)) H (fun r17 h17 hr17 hs17 H => ?_)
          have hT17 := vx_Tsh hT16 hs17
          replace H := H hT17
          refine vx_callL (i := .invokestatic 155) (how := 4) (cm := 14) (np := 1) (q := 70) (args := [.long (vx_l r17)]) (rest := []) (by decide +kernel) rfl rfl rfl (vx_w2 (w := 2) (ml := 2) rfl (by decide +kernel)) rfl H (fun r18 h18 hr18 hs18 H => ?_)
          have hT18 := vx_Tsh hT17 hs18
          replace H := H hT18
          refine vx_retLQ (q := 71) (by decide +kernel) ?_
          exact vx_RXl hr18 H
        · replace H := H.2 c15
          obtain ⟨k20, H⟩ := H
          refine vx_new (idx := 148) (kd := 12) (z := 6) (q := 33) (by decide +kernel) k20 (fun h19 e19 => ?_)
          have hT19 := vx_Tnew hT5 e19
          have kn19 : ve_k h19 (ve_n h5) = 12 := by rw [e19, ve_k_new, if_pos rfl]
          replace H := H h19 e19 hT19
          refine vx_dupR (q := 34) (by decide +kernel) ?_
          refine vx_xinit (i := .invokespecial 150) (np := 1) (cm := 12) (q := 37) (by decide +kernel) kn19 rfl ?_
          refine vx_throw (q := 38) (by decide +kernel) (by rw [kn19]; decide) ?_
          exact vx_RXLx kn19 H
-- RuleHouse.round(II)I
theorem vg_11 {d : Nat} {h : ve_H} {P : Int → ve_H → Prop} {X : Nat → ve_H → Prop} {x1 : Int} {x2 : Int} (hT : vx_T 1 625 h) (H : (vx_rI x2) ∧ ((x2 < 0 → (ve_rk h 6 = true) ∧ (∀ h3, h3 = ve_new h 12 6 → vx_T 1 625 h3 → X 12 h3)) ∧ (0 ≤ x2 → vx_CI d 13 [.ref 1, .int (vx_i x1)] h (fun r5 h5 => vx_T 1 625 h5 → ((x2 < r5 → vx_CI d 133 [.ref 22, .int (vx_i x1)] h5 (fun r7 h7 => vx_T 1 625 h7 → (0 ≤ (r7 + x2) ∧ (r7 + x2) < 201) ∧ (0 ≤ (vx_J h7 25 (r7 + x2).toNat) ∧ (vx_J h7 25 (r7 + x2).toNat) < 201) ∧ P (vx_J h7 27 (vx_J h7 25 (r7 + x2).toNat).toNat) h7)) ∧ (r5 ≤ x2 → (ve_rk h5 6 = true) ∧ (∀ h10, h10 = ve_new h5 12 6 → vx_T 1 625 h10 → X 12 h10))))))) : vx_CX (d + 1) 11 [.ref 1, .int (vx_i x1), .int (vx_i x2)] h P X := by
  refine vx_enter (ml := 3) (by decide +kernel) ?_
  show vx_W _ _ 0 [some (.ref 1), some (.int (vx_i x1)), some (.int (vx_i x2))] [] h _
  refine vx_iload_n (n := 2) (q := 1) (by decide +kernel) rfl ?_
  obtain ⟨k1, H⟩ := H
  refine vx_if0_lt (off := 12) (q := 4) (t := 13) (by decide +kernel) k1 (fun c2 => ?_) (fun c2 => ?_)
  · replace H := H.1 c2
    obtain ⟨k4, H⟩ := H
    refine vx_new (idx := 148) (kd := 12) (z := 6) (q := 16) (by decide +kernel) k4 (fun h3 e3 => ?_)
    have hT3 := vx_Tnew hT e3
    have kn3 : ve_k h3 (ve_n h) = 12 := by rw [e3, ve_k_new, if_pos rfl]
    replace H := H h3 e3 hT3
    refine vx_dupR (q := 17) (by decide +kernel) ?_
    refine vx_xinit (i := .invokespecial 150) (np := 1) (cm := 12) (q := 20) (by decide +kernel) kn3 rfl ?_
    refine vx_throw (q := 21) (by decide +kernel) (by rw [kn3]; decide) ?_
    exact vx_RXx kn3 H
  · replace H := H.2 c2
    refine vx_iload_n (n := 2) (q := 5) (by decide +kernel) rfl ?_
    refine vx_aload_n (n := 0) (q := 6) (by decide +kernel) rfl ?_
    refine vx_iload_n (n := 1) (q := 7) (by decide +kernel) rfl ?_
    refine vx_callI (i := .invokevirtual 179) (how := 3) (cm := 13) (np := 2) (q := 10) (args := [.ref 1, .int (vx_i x1)]) (rest := [.int (vx_i x2)]) (by decide +kernel) rfl rfl rfl (vx_w2 (w := 2) (ml := 2) rfl (by decide +kernel)) (vx_rcv (kd := 1) (vx_Tk hT (by decide +kernel)) (by decide +kernel)) H (fun r5 h5 hr5 hs5 H => ?_)
    have hT5 := vx_Tsh hT hs5
    replace H := H hT5
    refine vx_icmp_lt (off := 11) (q := 13) (t := 21) (by decide +kernel) k1 hr5 (fun c6 => ?_) (fun c6 => ?_)
    · replace H := H.1 c6
      refine vx_aload_n (n := 0) (q := 22) (by decide +kernel) rfl ?_
      refine vx_getR (b := 21) (idx := 28) (kd := 1) (s := 2) (fin := true) (q := 25) (by decide +kernel) (vx_Tk hT5 (by decide +kernel)) (vx_Tr hT5 (kd := 1) (by decide +kernel) (by decide +kernel) (by decide +kernel)) ?_
      refine vx_getR (b := 22) (idx := 117) (kd := 4) (s := 0) (fin := true) (q := 28) (by decide +kernel) (vx_Tk hT5 (by decide +kernel)) (vx_Tr hT5 (kd := 4) (by decide +kernel) (by decide +kernel) (by decide +kernel)) ?_
      refine vx_getR (b := 27) (idx := 196) (kd := 8) (s := 1) (fin := true) (q := 31) (by decide +kernel) (vx_Tk hT5 (by decide +kernel)) (vx_Tr hT5 (kd := 8) (by decide +kernel) (by decide +kernel) (by decide +kernel)) ?_
      refine vx_aload_n (n := 0) (q := 32) (by decide +kernel) rfl ?_
      refine vx_getR (b := 21) (idx := 28) (kd := 1) (s := 2) (fin := true) (q := 35) (by decide +kernel) (vx_Tk hT5 (by decide +kernel)) (vx_Tr hT5 (kd := 1) (by decide +kernel) (by decide +kernel) (by decide +kernel)) ?_
      refine vx_getR (b := 22) (idx := 117) (kd := 4) (s := 0) (fin := true) (q := 38) (by decide +kernel) (vx_Tk hT5 (by decide +kernel)) (vx_Tr hT5 (kd := 4) (by decide +kernel) (by decide +kernel) (by decide +kernel)) ?_
      refine vx_getR (b := 23) (idx := 121) (kd := 8) (s := 0) (fin := true) (q := 41) (by decide +kernel) (vx_Tk hT5 (by decide +kernel)) (vx_Tr hT5 (kd := 8) (by decide +kernel) (by decide +kernel) (by decide +kernel)) ?_
      refine vx_getR (b := 25) (idx := 199) (kd := 6) (s := 3) (fin := true) (q := 44) (by decide +kernel) (vx_Tk hT5 (by decide +kernel)) (vx_Tr hT5 (kd := 6) (by decide +kernel) (by decide +kernel) (by decide +kernel)) ?_
      refine vx_aload_n (n := 0) (q := 45) (by decide +kernel) rfl ?_
      refine vx_getR (b := 21) (idx := 28) (kd := 1) (s := 2) (fin := true) (q := 48) (by decide +kernel) (vx_Tk hT5 (by decide +kernel)) (vx_Tr hT5 (kd := 1) (by decide +kernel) (by decide +kernel) (by decide +kernel)) ?_
      refine vx_getR (b := 22) (idx := 117) (kd := 4) (s := 0) (fin := true) (q := 51) (by decide +kernel) (vx_Tk hT5 (by decide +kernel)) (vx_Tr hT5 (kd := 4) (by decide +kernel) (by decide +kernel) (by decide +kernel)) ?_
      refine vx_iload_n (n := 1) (q := 52) (by decide +kernel) rfl ?_
      refine vx_callI (i := .invokevirtual 193) (how := 3) (cm := 133) (np := 2) (q := 55) (args := [.ref 22, .int (vx_i x1)]) (rest := [.ref 25, .ref 27]) (by decide +kernel) rfl rfl rfl (vx_w2 (w := 2) (ml := 4) rfl (by decide +kernel)) (vx_rcv (kd := 8) (vx_Tk hT5 (by decide +kernel)) (by decide +kernel)) H (fun r7 h7 hr7 hs7 H => ?_)
      have hT7 := vx_Tsh hT5 hs7
      replace H := H hT7
      refine vx_iload_n (n := 2) (q := 56) (by decide +kernel) rfl ?_
      refine vx_iadd (q := 57) (by decide +kernel) ?_
      obtain ⟨k8, H⟩ := H
      refine vx_iaload (z := 201) (q := 58) (by decide +kernel) (vx_Tk hT7 (by decide +kernel)) (vx_Tz hT7 (by decide +kernel)) (vx_ix k8 (by decide)) ?_
      obtain ⟨k9, H⟩ := H
      refine vx_iaload (z := 201) (q := 59) (by decide +kernel) (vx_Tk hT7 (by decide +kernel)) (vx_Tz hT7 (by decide +kernel)) (vx_ix k9 (by decide)) ?_
      refine vx_retIQ (q := 60) (by decide +kernel) ?_
      exact vx_RXi (vx_rI_J h7 27 (vx_J h7 25 (r7 + x2).toNat).toNat) H
    · replace H := H.2 c6
      obtain ⟨k11, H⟩ := H
      refine vx_new (idx := 148) (kd := 12) (z := 6) (q := 16) (by decide +kernel) k11 (fun h10 e10 => ?_)
      have hT10 := vx_Tnew hT5 e10
      have kn10 : ve_k h10 (ve_n h5) = 12 := by rw [e10, ve_k_new, if_pos rfl]
      replace H := H h10 e10 hT10
      refine vx_dupR (q := 17) (by decide +kernel) ?_
      refine vx_xinit (i := .invokespecial 150) (np := 1) (cm := 12) (q := 20) (by decide +kernel) kn10 rfl ?_
      refine vx_throw (q := 21) (by decide +kernel) (by rw [kn10]; decide) ?_
      exact vx_RXx kn10 H
-- RuleHouse.closeReading()V
theorem vg_12 {d : Nat} {h : ve_H} {P : ve_H → Prop}  (hT : vx_T 1 625 h) (H : vx_CV d 193 [.ref 2] h (fun h1 => vx_T 1 625 h1 → (∀ h2, h2 = vx_sJ h1 1 11 (vx_J h1 7 11) → vx_T 1 625 h2 → (∀ h3, h3 = vx_sJ h2 1 12 (vx_J h2 7 12) → vx_T 1 625 h3 → P h3)))) : vx_CV (d + 1) 12 [.ref 1] h P := by
  refine vx_enter (ml := 1) (by decide +kernel) ?_
  show vx_W _ _ 0 [some (.ref 1)] [] h _
  refine vx_aload_n (n := 0) (q := 1) (by decide +kernel) rfl ?_
  refine vx_getR (b := 2) (idx := 12) (kd := 1) (s := 0) (fin := true) (q := 4) (by decide +kernel) (vx_Tk hT (by decide +kernel)) (vx_Tr hT (kd := 1) (by decide +kernel) (by decide +kernel) (by decide +kernel)) ?_
  refine vx_callV (i := .invokevirtual 78) (how := 3) (cm := 193) (np := 1) (q := 7) (args := [.ref 2]) (rest := []) (by decide +kernel) rfl rfl rfl (vx_w2 (w := 1) (ml := 1) rfl (by decide +kernel)) (vx_rcv (kd := 2) (vx_Tk hT (by decide +kernel)) (by decide +kernel)) H (fun h1 hs1 H => ?_)
  have hT1 := vx_Tsh hT hs1
  replace H := H hT1
  refine vx_aload_n (n := 0) (q := 8) (by decide +kernel) rfl ?_
  refine vx_aload_n (n := 0) (q := 9) (by decide +kernel) rfl ?_
  refine vx_getR (b := 7) (idx := 21) (kd := 1) (s := 1) (fin := true) (q := 12) (by decide +kernel) (vx_Tk hT1 (by decide +kernel)) (vx_Tr hT1 (kd := 1) (by decide +kernel) (by decide +kernel) (by decide +kernel)) ?_
  refine vx_getI (idx := 202) (kd := 3) (s := 11) (fin := false) (q := 15) (by decide +kernel) (vx_Tk hT1 (by decide +kernel)) ?_
  refine vx_putI (idx := 69) (kd := 1) (s := 11) (fin := false) (q := 18) (by decide +kernel) (vx_Tk hT1 (by decide +kernel)) (fun h2 e2 => ?_)
  have hT2 := vx_TJ hT1 e2
  replace H := H h2 e2 hT2
  refine vx_aload_n (n := 0) (q := 19) (by decide +kernel) rfl ?_
  refine vx_aload_n (n := 0) (q := 20) (by decide +kernel) rfl ?_
  refine vx_getR (b := 7) (idx := 21) (kd := 1) (s := 1) (fin := true) (q := 23) (by decide +kernel) (vx_Tk hT2 (by decide +kernel)) (vx_Tr hT2 (kd := 1) (by decide +kernel) (by decide +kernel) (by decide +kernel)) ?_
  refine vx_getI (idx := 203) (kd := 3) (s := 12) (fin := false) (q := 26) (by decide +kernel) (vx_Tk hT2 (by decide +kernel)) ?_
  refine vx_putI (idx := 81) (kd := 1) (s := 12) (fin := false) (q := 29) (by decide +kernel) (vx_Tk hT2 (by decide +kernel)) (fun h3 e3 => ?_)
  have hT3 := vx_TJ hT2 e3
  replace H := H h3 e3 hT3
  refine vx_retV (q := 30) (by decide +kernel) ?_
  exact H
-- RuleHouse.tuplesOf(I)I
theorem vg_13 {d : Nat} {h : ve_H} {P : Int → ve_H → Prop} {x1 : Int} (hT : vx_T 1 625 h) (H : (vx_rI x1) ∧ ((x1 < 0 → P 0 h) ∧ (0 ≤ x1 → (∃ b3, ve_R h 1 3 = some b3 ∧ vx_o 1 625 5 b3 ∧ (((vx_J h b3 6) ≤ x1 → P 0 h) ∧ (x1 < (vx_J h b3 6) → (((vx_J h 1 8) = 1 → (0 ≤ x1 ∧ x1 < 16) ∧ P (vx_J h 30 x1.toNat) h) ∧ ((vx_J h 1 8) ≠ 1 → P 0 h)))))))) : vx_CI d 13 [.ref 1, .int (vx_i x1)] h P := by
  refine vx_enter (ml := 2) (by decide +kernel) ?_
  show vx_W _ _ 0 [some (.ref 1), some (.int (vx_i x1))] [] h _
  refine vx_iload_n (n := 1) (q := 1) (by decide +kernel) rfl ?_
  obtain ⟨k1, H⟩ := H
  refine vx_if0_lt (off := 22) (q := 4) (t := 23) (by decide +kernel) k1 (fun c2 => ?_) (fun c2 => ?_)
  · replace H := H.1 c2
    refine vx_iconst (n := 0) (q := 24) (by decide +kernel) ?_
    refine vx_retI (q := 25) (by decide +kernel) (by decide) ?_
    exact H
  · replace H := H.2 c2
    refine vx_iload_n (n := 1) (q := 5) (by decide +kernel) rfl ?_
    refine vx_aload_n (n := 0) (q := 6) (by decide +kernel) rfl ?_
    obtain ⟨b3, eb3, ob3, H⟩ := H
    refine vx_getR (b := b3) (idx := 35) (kd := 1) (s := 3) (fin := false) (q := 9) (by decide +kernel) (vx_Tk hT (by decide +kernel)) eb3 ?_
    refine vx_getI (idx := 159) (kd := 5) (s := 6) (fin := false) (q := 12) (by decide +kernel) (vx_Tk hT ob3) ?_
    refine vx_icmp_ge (off := 11) (q := 15) (t := 23) (by decide +kernel) k1 (vx_rI_J h b3 6) (fun c4 => ?_) (fun c4 => ?_)
    · replace H := H.1 c4
      refine vx_iconst (n := 0) (q := 24) (by decide +kernel) ?_
      refine vx_retI (q := 25) (by decide +kernel) (by decide) ?_
      exact H
    · replace H := H.2 c4
      refine vx_aload_n (n := 0) (q := 16) (by decide +kernel) rfl ?_
      refine vx_getI (idx := 54) (kd := 1) (s := 8) (fin := false) (q := 19) (by decide +kernel) (vx_Tk hT (by decide +kernel)) ?_
      refine vx_iconst (n := 1) (q := 20) (by decide +kernel) ?_
      refine vx_icmp_eq (off := 5) (q := 23) (t := 25) (by decide +kernel) (vx_rI_J h 1 8) (by decide) (fun c5 => ?_) (fun c5 => ?_)
      · replace H := H.1 c5
        refine vx_aload_n (n := 0) (q := 26) (by decide +kernel) rfl ?_
        refine vx_getR (b := 21) (idx := 28) (kd := 1) (s := 2) (fin := true) (q := 29) (by decide +kernel) (vx_Tk hT (by decide +kernel)) (vx_Tr hT (kd := 1) (by decide +kernel) (by decide +kernel) (by decide +kernel)) ?_
        refine vx_getR (b := 22) (idx := 117) (kd := 4) (s := 0) (fin := true) (q := 32) (by decide +kernel) (vx_Tk hT (by decide +kernel)) (vx_Tr hT (kd := 4) (by decide +kernel) (by decide +kernel) (by decide +kernel)) ?_
        refine vx_getR (b := 30) (idx := 204) (kd := 8) (s := 4) (fin := true) (q := 35) (by decide +kernel) (vx_Tk hT (by decide +kernel)) (vx_Tr hT (kd := 8) (by decide +kernel) (by decide +kernel) (by decide +kernel)) ?_
        refine vx_iload_n (n := 1) (q := 36) (by decide +kernel) rfl ?_
        obtain ⟨k6, H⟩ := H
        refine vx_iaload (z := 16) (q := 37) (by decide +kernel) (vx_Tk hT (by decide +kernel)) (vx_Tz hT (by decide +kernel)) (vx_ix k6 (by decide)) ?_
        refine vx_retI (q := 38) (by decide +kernel) (vx_rI_J h 30 x1.toNat) ?_
        exact H
      · replace H := H.2 c5
        refine vx_iconst (n := 0) (q := 24) (by decide +kernel) ?_
        refine vx_retI (q := 25) (by decide +kernel) (by decide) ?_
        exact H
-- RuleHouse.shown(J)J
theorem vg_14 {d : Nat} {h : ve_H} {P : Int → ve_H → Prop} {x1 : Int} (hT : vx_T 1 625 h) (H : (vx_rL x1) ∧ ((72057594037927936 ≤ x1 → vx_CI d 15 [.long (vx_l x1)] h (fun r3 h3 => vx_T 1 625 h3 → (vx_rL (72057594037927936 + (vx_lushr (x1 - 72057594037927936) (8 * (6 - r3))))) ∧ P (72057594037927936 + (vx_lushr (x1 - 72057594037927936) (8 * (6 - r3)))) h3)) ∧ (x1 < 72057594037927936 → P x1 h))) : vx_CL (d + 1) 14 [.long (vx_l x1)] h P := by
  refine vx_enter (ml := 2) (by decide +kernel) ?_
  show vx_W _ _ 0 [some (.long (vx_l x1)), none] [] h _
  refine vx_lload_n (n := 0) (q := 1) (by decide +kernel) rfl ?_
  refine vx_ldc (idx := 207) (v := 72057594037927936) (m := 72057594037927936) (q := 4) (by decide +kernel) ?_
  obtain ⟨k1, H⟩ := H
  refine vx_lc_ge (off := 5) (p := 5) (q := 8) (t := 10) (by decide +kernel) k1 (by decide) (fun c2 => ?_) (fun c2 => ?_)
  · replace H := H.1 c2
    refine vx_ldc (idx := 207) (v := 72057594037927936) (m := 72057594037927936) (q := 13) (by decide +kernel) ?_
    refine vx_lload_n (n := 0) (q := 14) (by decide +kernel) rfl ?_
    refine vx_ldc (idx := 207) (v := 72057594037927936) (m := 72057594037927936) (q := 17) (by decide +kernel) ?_
    refine vx_lsub (q := 18) (by decide +kernel) ?_
    refine vx_bipush (n := 8) (q := 20) (by decide +kernel) ?_
    refine vx_bipush (n := 6) (q := 22) (by decide +kernel) ?_
    refine vx_lload_n (n := 0) (q := 23) (by decide +kernel) rfl ?_
    refine vx_callI (i := .invokestatic 185) (how := 4) (cm := 15) (np := 1) (q := 26) (args := [.long (vx_l x1)]) (rest := [.int (vx_i 6), .int (vx_i 8), .long (vx_l (x1 - 72057594037927936)), .long (vx_l 72057594037927936)]) (by decide +kernel) rfl rfl rfl (vx_w2 (w := 2) (ml := 4) rfl (by decide +kernel)) rfl H (fun r3 h3 hr3 hs3 H => ?_)
    have hT3 := vx_Tsh hT hs3
    replace H := H hT3
    refine vx_isub (q := 27) (by decide +kernel) ?_
    refine vx_imul (q := 28) (by decide +kernel) ?_
    refine vx_lushr1 (q := 29) (by decide +kernel) ?_
    refine vx_ladd (q := 30) (by decide +kernel) ?_
    obtain ⟨k4, H⟩ := H
    refine vx_retL (q := 31) (by decide +kernel) k4 ?_
    exact H
  · replace H := H.2 c2
    refine vx_lload_n (n := 0) (q := 9) (by decide +kernel) rfl ?_
    refine vx_retL (q := 10) (by decide +kernel) k1 ?_
    exact H
-- RuleHouse.lettersOf(J)I
theorem vg_15 {d : Nat} {h : ve_H} {P : Int → ve_H → Prop} {x1 : Int} (hT : vx_T 1 625 h) (H : vx_W (d + 1) 15 4 [some (.long (vx_l x1)), none, some (.int (vx_i 0)), some (.int (vx_i 0))] [] h (vx_RI P)) : vx_CI (d + 1) 15 [.long (vx_l x1)] h P := by
  refine vx_enter (ml := 4) (by decide +kernel) ?_
  show vx_W _ _ 0 [some (.long (vx_l x1)), none, none, none] [] h _
  refine vx_iconst (n := 0) (q := 1) (by decide +kernel) ?_
  refine vx_istore_n (n := 2) (q := 2) (lv' := [some (.long (vx_l x1)), none, some (.int (vx_i 0)), none]) (by decide +kernel) rfl ?_
  refine vx_iconst (n := 0) (q := 3) (by decide +kernel) ?_
  refine vx_istore_n (n := 3) (q := 4) (lv' := [some (.long (vx_l x1)), none, some (.int (vx_i 0)), some (.int (vx_i 0))]) (by decide +kernel) rfl ?_
  exact H
theorem vg_15_4 {d : Nat} {h : ve_H} {P : Int → ve_H → Prop} {v0 : Int} {v2 : Int} {v3 : Int} (hT : vx_T 1 625 h) (H : (vx_rI v3) ∧ ((6 ≤ v3 → (vx_rI v2) ∧ P v2 h) ∧ (v3 < 6 → vx_CI d 16 [.long (vx_l v0), .int (vx_i v3)] h (fun r4 h4 => vx_T 1 625 h4 → ((r4 = ((-1)) → vx_W (d + 1) 15 4 [some (.long (vx_l v0)), none, some (.int (vx_i v2)), some (.int (vx_i (v3 + 1)))] [] h4 (vx_RI P)) ∧ (r4 ≠ ((-1)) → vx_W (d + 1) 15 4 [some (.long (vx_l v0)), none, some (.int (vx_i (v3 + 1))), some (.int (vx_i (v3 + 1)))] [] h4 (vx_RI P))))))) : vx_W (d + 1) 15 4 [some (.long (vx_l v0)), none, some (.int (vx_i v2)), some (.int (vx_i v3))] [] h (vx_RI P) := by
  refine vx_iload_n (n := 3) (q := 5) (by decide +kernel) rfl ?_
  refine vx_bipush (n := 6) (q := 7) (by decide +kernel) ?_
  obtain ⟨k1, H⟩ := H
  refine vx_icmp_ge (off := 22) (q := 10) (t := 29) (by decide +kernel) k1 (by decide) (fun c2 => ?_) (fun c2 => ?_)
  · replace H := H.1 c2
    refine vx_iload_n (n := 2) (q := 30) (by decide +kernel) rfl ?_
    obtain ⟨k3, H⟩ := H
    refine vx_retI (q := 31) (by decide +kernel) k3 ?_
    exact H
  · replace H := H.2 c2
    refine vx_lload_n (n := 0) (q := 11) (by decide +kernel) rfl ?_
    refine vx_iload_n (n := 3) (q := 12) (by decide +kernel) rfl ?_
    refine vx_callI (i := .invokestatic 189) (how := 4) (cm := 16) (np := 2) (q := 15) (args := [.long (vx_l v0), .int (vx_i v3)]) (rest := []) (by decide +kernel) rfl rfl rfl (vx_w2 (w := 3) (ml := 4) rfl (by decide +kernel)) rfl H (fun r4 h4 hr4 hs4 H => ?_)
    have hT4 := vx_Tsh hT hs4
    replace H := H hT4
    refine vx_iconst (n := (-1)) (q := 16) (by decide +kernel) ?_
    refine vx_icmp_eq (off := 7) (q := 19) (t := 23) (by decide +kernel) hr4 (by decide) (fun c5 => ?_) (fun c5 => ?_)
    · replace H := H.1 c5
      refine vx_iinc (n := 3) (m := 1) (x := v3) (q := 26) (lv' := [some (.long (vx_l v0)), none, some (.int (vx_i v2)), some (.int (vx_i (v3 + 1)))]) (by decide +kernel) rfl rfl ?_
      refine vx_goto (off := (-22)) (q := 29) (t := 4) (by decide +kernel) ?_
      exact H
    · replace H := H.2 c5
      refine vx_iload_n (n := 3) (q := 20) (by decide +kernel) rfl ?_
      refine vx_iconst (n := 1) (q := 21) (by decide +kernel) ?_
      refine vx_iadd (q := 22) (by decide +kernel) ?_
      refine vx_istore_n (n := 2) (q := 23) (lv' := [some (.long (vx_l v0)), none, some (.int (vx_i (v3 + 1))), some (.int (vx_i v3))]) (by decide +kernel) rfl ?_
      refine vx_iinc (n := 3) (m := 1) (x := v3) (q := 26) (lv' := [some (.long (vx_l v0)), none, some (.int (vx_i (v3 + 1))), some (.int (vx_i (v3 + 1)))]) (by decide +kernel) rfl rfl ?_
      refine vx_goto (off := (-22)) (q := 29) (t := 4) (by decide +kernel) ?_
      exact H
-- RuleHouse.letterAt(JI)I
theorem vg_16 {d : Nat} {h : ve_H} {P : Int → ve_H → Prop} {x1 : Int} {x2 : Int} (hT : vx_T 1 625 h) (H : (vx_rI x2) ∧ ((x2 < 0 → P ((-1)) h) ∧ (0 ≤ x2 → ((x2 < 6 → (((vx_and (vx_lushr x1 (8 * (5 - x2))) 255) ≠ 0 → P (vx_and (vx_lushr x1 (8 * (5 - x2))) 255) h) ∧ ((vx_and (vx_lushr x1 (8 * (5 - x2))) 255) = 0 → P ((-1)) h))) ∧ (6 ≤ x2 → P ((-1)) h))))) : vx_CI d 16 [.long (vx_l x1), .int (vx_i x2)] h P := by
  refine vx_enter (ml := 4) (by decide +kernel) ?_
  show vx_W _ _ 0 [some (.long (vx_l x1)), none, some (.int (vx_i x2)), none] [] h _
  refine vx_iload_n (n := 2) (q := 1) (by decide +kernel) rfl ?_
  obtain ⟨k1, H⟩ := H
  refine vx_if0_lt (off := 9) (q := 4) (t := 10) (by decide +kernel) k1 (fun c2 => ?_) (fun c2 => ?_)
  · replace H := H.1 c2
    refine vx_iconst (n := (-1)) (q := 11) (by decide +kernel) ?_
    refine vx_retI (q := 12) (by decide +kernel) (by decide) ?_
    exact H
  · replace H := H.2 c2
    refine vx_iload_n (n := 2) (q := 5) (by decide +kernel) rfl ?_
    refine vx_bipush (n := 6) (q := 7) (by decide +kernel) ?_
    refine vx_icmp_lt (off := 5) (q := 10) (t := 12) (by decide +kernel) k1 (by decide) (fun c3 => ?_) (fun c3 => ?_)
    · replace H := H.1 c3
      refine vx_lload_n (n := 0) (q := 13) (by decide +kernel) rfl ?_
      refine vx_bipush (n := 8) (q := 15) (by decide +kernel) ?_
      refine vx_iconst (n := 5) (q := 16) (by decide +kernel) ?_
      refine vx_iload_n (n := 2) (q := 17) (by decide +kernel) rfl ?_
      refine vx_isub (q := 18) (by decide +kernel) ?_
      refine vx_imul (q := 19) (by decide +kernel) ?_
      refine vx_lushr1 (q := 20) (by decide +kernel) ?_
      refine vx_l2i (q := 21) (by decide +kernel) ?_
      refine vx_sipush (n := 255) (q := 24) (by decide +kernel) ?_
      refine vx_iand (q := 25) (by decide +kernel) ?_
      refine vx_istore_n (n := 3) (q := 26) (lv' := [some (.long (vx_l x1)), none, some (.int (vx_i x2)), some (.int (vx_i (vx_and (vx_lushr x1 (8 * (5 - x2))) 255)))]) (by decide +kernel) rfl ?_
      refine vx_iload_n (n := 3) (q := 27) (by decide +kernel) rfl ?_
      refine vx_if0_ne (off := 7) (q := 30) (t := 34) (by decide +kernel) (vx_rI_toInt _) (fun c4 => ?_) (fun c4 => ?_)
      · replace H := H.1 c4
        refine vx_iload_n (n := 3) (q := 35) (by decide +kernel) rfl ?_
        refine vx_retI (q := 36) (by decide +kernel) (vx_rI_toInt _) ?_
        exact H
      · replace H := H.2 c4
        refine vx_iconst (n := (-1)) (q := 31) (by decide +kernel) ?_
        refine vx_goto (off := 4) (q := 34) (t := 35) (by decide +kernel) ?_
        refine vx_retI (q := 36) (by decide +kernel) (by decide) ?_
        exact H
    · replace H := H.2 c3
      refine vx_iconst (n := (-1)) (q := 11) (by decide +kernel) ?_
      refine vx_retI (q := 12) (by decide +kernel) (by decide) ?_
      exact H
-- RuleHouse.isVariable(J)Z
theorem vg_17 {d : Nat} {h : ve_H} {P : Int → ve_H → Prop} {x1 : Int} (hT : vx_T 1 625 h) (H : (vx_rL x1) ∧ ((x1 < 144115188075855872 → P 0 h) ∧ (144115188075855872 ≤ x1 → ((144115188075855880 ≤ x1 → P 0 h) ∧ (x1 < 144115188075855880 → P 1 h))))) : vx_CI d 17 [.long (vx_l x1)] h P := by
  refine vx_enter (ml := 2) (by decide +kernel) ?_
  show vx_W _ _ 0 [some (.long (vx_l x1)), none] [] h _
  refine vx_lload_n (n := 0) (q := 1) (by decide +kernel) rfl ?_
  refine vx_ldc (idx := 209) (v := 144115188075855872) (m := 144115188075855872) (q := 4) (by decide +kernel) ?_
  obtain ⟨k1, H⟩ := H
  refine vx_lc_lt (off := 15) (p := 5) (q := 8) (t := 20) (by decide +kernel) k1 (by decide) (fun c2 => ?_) (fun c2 => ?_)
  · replace H := H.1 c2
    refine vx_iconst (n := 0) (q := 21) (by decide +kernel) ?_
    refine vx_retZ (q := 22) (by decide +kernel) (Or.inl rfl) ?_
    exact H
  · replace H := H.2 c2
    refine vx_lload_n (n := 0) (q := 9) (by decide +kernel) rfl ?_
    refine vx_ldc (idx := 211) (v := 144115188075855880) (m := 144115188075855880) (q := 12) (by decide +kernel) ?_
    refine vx_lc_ge (off := 7) (p := 13) (q := 16) (t := 20) (by decide +kernel) k1 (by decide) (fun c3 => ?_) (fun c3 => ?_)
    · replace H := H.1 c3
      refine vx_iconst (n := 0) (q := 21) (by decide +kernel) ?_
      refine vx_retZ (q := 22) (by decide +kernel) (Or.inl rfl) ?_
      exact H
    · replace H := H.2 c3
      refine vx_iconst (n := 1) (q := 17) (by decide +kernel) ?_
      refine vx_goto (off := 4) (q := 20) (t := 21) (by decide +kernel) ?_
      refine vx_retZ (q := 22) (by decide +kernel) (Or.inr rfl) ?_
      exact H
-- RuleHouseLaw.program(LRuleHouse;[J)I
theorem vg_209 {d : Nat} {h : ve_H} {P : Int → ve_H → Prop}  (hT : vx_T 1 673 h) (H : vx_CX d 2 [.ref 1] h (fun r1 h1 => vx_T 1 673 h1 → (∀ h2, h2 = vx_sK h1 672 0 r1 → vx_T 1 673 h2 → P 0 h2)) (fun kx h1 => vx_T 1 673 h1 → (kx = 10 ∧ P 1 h1))) : vx_CI (d + 1) 209 [.ref 1, .ref 672] h P := by
  refine vx_enter (ml := 3) (by decide +kernel) ?_
  show vx_W _ _ 0 [some (.ref 1), some (.ref 672), none] [] h _
  refine vx_aload_n (n := 1) (q := 1) (by decide +kernel) rfl ?_
  refine vx_iconst (n := 0) (q := 2) (by decide +kernel) ?_
  refine vx_aload_n (n := 0) (q := 3) (by decide +kernel) rfl ?_
  refine vx_callX (i := .invokevirtual 7) (how := 3) (cm := 2) (np := 1) (q := 6) (args := [.ref 1]) (rest := [.int (vx_i 0), .ref 672]) (by decide +kernel) rfl rfl rfl (vx_w2 (w := 1) (ml := 2) rfl (by decide +kernel)) (vx_rcv (kd := 1) (vx_Tk hT (by decide +kernel)) (by decide +kernel)) H (fun r1 h1 hr1 hs1 H => ?_) (fun ax kx h1 hk1 hs1 H => ?_)
  · have hT1 := vx_Tsh hT hs1
    replace H := H hT1
    refine vx_i2l (q := 7) (by decide +kernel) hr1 ?_
    refine vx_lastore (z := 1) (q := 8) (by decide +kernel) (vx_Tk hT1 (by decide +kernel)) (vx_Tz hT1 (by decide +kernel)) (by decide) (fun h2 e2 => ?_)
    have hT2 := vx_TK hT1 e2
    replace H := H h2 e2 hT2
    refine vx_goto (off := 6) (q := 11) (t := 14) (by decide +kernel) ?_
    refine vx_iconst (n := 0) (q := 15) (by decide +kernel) ?_
    refine vx_retI (q := 16) (by decide +kernel) (by decide) ?_
    exact H
  · have hT1 := vx_Tsh hT hs1
    replace H := H hT1
    obtain ⟨hkd, H⟩ := H
    · refine ⟨11, by rw [hkd]; decide +kernel, ?_⟩
      refine vx_astore_n (n := 2) (q := 12) (lv' := [some (.ref 1), some (.ref 672), some (.ref ax)]) (by decide +kernel) rfl ?_
      refine vx_iconst (n := 1) (q := 13) (by decide +kernel) ?_
      refine vx_retI (q := 14) (by decide +kernel) (by decide) ?_
      exact H
-- RuleHouseLaw.fact(LRuleHouse;I[J)I
theorem vg_210 {d : Nat} {h : ve_H} {P : Int → ve_H → Prop} {x2 : Int} (hT : vx_T 1 673 h) (H : vx_CX d 3 [.ref 1, .int (vx_i x2)] h (fun r1 h1 => vx_T 1 673 h1 → ((r1 = 0 → (∀ h3, h3 = vx_sK h1 672 0 0 → vx_T 1 673 h3 → P 0 h3)) ∧ (r1 ≠ 0 → (∀ h4, h4 = vx_sK h1 672 0 1 → vx_T 1 673 h4 → P 0 h4)))) (fun kx h1 => vx_T 1 673 h1 → (kx = 10 ∧ P 1 h1) ∨ (kx = 11 ∧ P 2 h1))) : vx_CI (d + 1) 210 [.ref 1, .int (vx_i x2), .ref 672] h P := by
  refine vx_enter (ml := 4) (by decide +kernel) ?_
  show vx_W _ _ 0 [some (.ref 1), some (.int (vx_i x2)), some (.ref 672), none] [] h _
  refine vx_aload_n (n := 2) (q := 1) (by decide +kernel) rfl ?_
  refine vx_iconst (n := 0) (q := 2) (by decide +kernel) ?_
  refine vx_aload_n (n := 0) (q := 3) (by decide +kernel) rfl ?_
  refine vx_iload_n (n := 1) (q := 4) (by decide +kernel) rfl ?_
  refine vx_callX (i := .invokevirtual 15) (how := 3) (cm := 3) (np := 2) (q := 7) (args := [.ref 1, .int (vx_i x2)]) (rest := [.int (vx_i 0), .ref 672]) (by decide +kernel) rfl rfl rfl (vx_w2 (w := 2) (ml := 4) rfl (by decide +kernel)) (vx_rcv (kd := 1) (vx_Tk hT (by decide +kernel)) (by decide +kernel)) H (fun r1 h1 hr1 hs1 H => ?_) (fun ax kx h1 hk1 hs1 H => ?_)
  · have hT1 := vx_Tsh hT hs1
    replace H := H hT1
    refine vx_if0_eq (off := 7) (q := 10) (t := 14) (by decide +kernel) hr1 (fun c2 => ?_) (fun c2 => ?_)
    · replace H := H.1 c2
      refine vx_lconst (n := 0) (m := 0) (q := 15) (by decide +kernel) ?_
      refine vx_lastore (z := 1) (q := 16) (by decide +kernel) (vx_Tk hT1 (by decide +kernel)) (vx_Tz hT1 (by decide +kernel)) (by decide) (fun h3 e3 => ?_)
      have hT3 := vx_TK hT1 e3
      replace H := H h3 e3 hT3
      refine vx_goto (off := 9) (q := 19) (t := 25) (by decide +kernel) ?_
      refine vx_iconst (n := 0) (q := 26) (by decide +kernel) ?_
      refine vx_retI (q := 27) (by decide +kernel) (by decide) ?_
      exact H
    · replace H := H.2 c2
      refine vx_lconst (n := 1) (m := 1) (q := 11) (by decide +kernel) ?_
      refine vx_goto (off := 4) (q := 14) (t := 15) (by decide +kernel) ?_
      refine vx_lastore (z := 1) (q := 16) (by decide +kernel) (vx_Tk hT1 (by decide +kernel)) (vx_Tz hT1 (by decide +kernel)) (by decide) (fun h4 e4 => ?_)
      have hT4 := vx_TK hT1 e4
      replace H := H h4 e4 hT4
      refine vx_goto (off := 9) (q := 19) (t := 25) (by decide +kernel) ?_
      refine vx_iconst (n := 0) (q := 26) (by decide +kernel) ?_
      refine vx_retI (q := 27) (by decide +kernel) (by decide) ?_
      exact H
  · have hT1 := vx_Tsh hT hs1
    replace H := H hT1
    rcases H with ⟨hkd, H⟩ | ⟨hkd, H⟩
    · refine ⟨19, by rw [hkd]; decide +kernel, ?_⟩
      refine vx_astore_n (n := 3) (q := 20) (lv' := [some (.ref 1), some (.int (vx_i x2)), some (.ref 672), some (.ref ax)]) (by decide +kernel) rfl ?_
      refine vx_iconst (n := 1) (q := 21) (by decide +kernel) ?_
      refine vx_retI (q := 22) (by decide +kernel) (by decide) ?_
      exact H
    · refine ⟨22, by rw [hkd]; decide +kernel, ?_⟩
      refine vx_astore_n (n := 3) (q := 23) (lv' := [some (.ref 1), some (.int (vx_i x2)), some (.ref 672), some (.ref ax)]) (by decide +kernel) rfl ?_
      refine vx_iconst (n := 2) (q := 24) (by decide +kernel) ?_
      refine vx_retI (q := 25) (by decide +kernel) (by decide) ?_
      exact H
-- RuleHouseLaw.solve(LRuleHouse;[J)I
theorem vg_211 {d : Nat} {h : ve_H} {P : Int → ve_H → Prop}  (hT : vx_T 1 673 h) (H : vx_CX d 5 [.ref 1] h (fun r1 h1 => vx_T 1 673 h1 → (∀ h2, h2 = vx_sK h1 672 0 r1 → vx_T 1 673 h2 → P 0 h2)) (fun kx h1 => vx_T 1 673 h1 → (kx = 11 ∧ P 1 h1))) : vx_CI (d + 1) 211 [.ref 1, .ref 672] h P := by
  refine vx_enter (ml := 3) (by decide +kernel) ?_
  show vx_W _ _ 0 [some (.ref 1), some (.ref 672), none] [] h _
  refine vx_aload_n (n := 1) (q := 1) (by decide +kernel) rfl ?_
  refine vx_iconst (n := 0) (q := 2) (by decide +kernel) ?_
  refine vx_aload_n (n := 0) (q := 3) (by decide +kernel) rfl ?_
  refine vx_callX (i := .invokevirtual 21) (how := 3) (cm := 5) (np := 1) (q := 6) (args := [.ref 1]) (rest := [.int (vx_i 0), .ref 672]) (by decide +kernel) rfl rfl rfl (vx_w2 (w := 1) (ml := 1) rfl (by decide +kernel)) (vx_rcv (kd := 1) (vx_Tk hT (by decide +kernel)) (by decide +kernel)) H (fun r1 h1 hr1 hs1 H => ?_) (fun ax kx h1 hk1 hs1 H => ?_)
  · have hT1 := vx_Tsh hT hs1
    replace H := H hT1
    refine vx_i2l (q := 7) (by decide +kernel) hr1 ?_
    refine vx_lastore (z := 1) (q := 8) (by decide +kernel) (vx_Tk hT1 (by decide +kernel)) (vx_Tz hT1 (by decide +kernel)) (by decide) (fun h2 e2 => ?_)
    have hT2 := vx_TK hT1 e2
    replace H := H h2 e2 hT2
    refine vx_goto (off := 6) (q := 11) (t := 14) (by decide +kernel) ?_
    refine vx_iconst (n := 0) (q := 15) (by decide +kernel) ?_
    refine vx_retI (q := 16) (by decide +kernel) (by decide) ?_
    exact H
  · have hT1 := vx_Tsh hT hs1
    replace H := H hT1
    obtain ⟨hkd, H⟩ := H
    · refine ⟨11, by rw [hkd]; decide +kernel, ?_⟩
      refine vx_astore_n (n := 2) (q := 12) (lv' := [some (.ref 1), some (.ref 672), some (.ref ax)]) (by decide +kernel) rfl ?_
      refine vx_iconst (n := 1) (q := 13) (by decide +kernel) ?_
      refine vx_retI (q := 14) (by decide +kernel) (by decide) ?_
      exact H
-- RuleHouseLaw.ask(LRuleHouse;[J)I
theorem vg_212 {d : Nat} {h : ve_H} {P : Int → ve_H → Prop}  (hT : vx_T 1 673 h) (H : vx_CX d 6 [.ref 1] h (fun r1 h1 => vx_T 1 673 h1 → (∀ h2, h2 = vx_sK h1 672 0 r1 → vx_T 1 673 h2 → P 0 h2)) (fun kx h1 => vx_T 1 673 h1 → (kx = 10 ∧ P 1 h1) ∨ (kx = 11 ∧ P 2 h1))) : vx_CI (d + 1) 212 [.ref 1, .ref 672] h P := by
  refine vx_enter (ml := 3) (by decide +kernel) ?_
  show vx_W _ _ 0 [some (.ref 1), some (.ref 672), none] [] h _
  refine vx_aload_n (n := 1) (q := 1) (by decide +kernel) rfl ?_
  refine vx_iconst (n := 0) (q := 2) (by decide +kernel) ?_
  refine vx_aload_n (n := 0) (q := 3) (by decide +kernel) rfl ?_
  refine vx_callX (i := .invokevirtual 24) (how := 3) (cm := 6) (np := 1) (q := 6) (args := [.ref 1]) (rest := [.int (vx_i 0), .ref 672]) (by decide +kernel) rfl rfl rfl (vx_w2 (w := 1) (ml := 2) rfl (by decide +kernel)) (vx_rcv (kd := 1) (vx_Tk hT (by decide +kernel)) (by decide +kernel)) H (fun r1 h1 hr1 hs1 H => ?_) (fun ax kx h1 hk1 hs1 H => ?_)
  · have hT1 := vx_Tsh hT hs1
    replace H := H hT1
    refine vx_i2l (q := 7) (by decide +kernel) hr1 ?_
    refine vx_lastore (z := 1) (q := 8) (by decide +kernel) (vx_Tk hT1 (by decide +kernel)) (vx_Tz hT1 (by decide +kernel)) (by decide) (fun h2 e2 => ?_)
    have hT2 := vx_TK hT1 e2
    replace H := H h2 e2 hT2
    refine vx_goto (off := 9) (q := 11) (t := 17) (by decide +kernel) ?_
    refine vx_iconst (n := 0) (q := 18) (by decide +kernel) ?_
    refine vx_retI (q := 19) (by decide +kernel) (by decide) ?_
    exact H
  · have hT1 := vx_Tsh hT hs1
    replace H := H hT1
    rcases H with ⟨hkd, H⟩ | ⟨hkd, H⟩
    · refine ⟨11, by rw [hkd]; decide +kernel, ?_⟩
      refine vx_astore_n (n := 2) (q := 12) (lv' := [some (.ref 1), some (.ref 672), some (.ref ax)]) (by decide +kernel) rfl ?_
      refine vx_iconst (n := 1) (q := 13) (by decide +kernel) ?_
      refine vx_retI (q := 14) (by decide +kernel) (by decide) ?_
      exact H
    · refine ⟨14, by rw [hkd]; decide +kernel, ?_⟩
      refine vx_astore_n (n := 2) (q := 15) (lv' := [some (.ref 1), some (.ref 672), some (.ref ax)]) (by decide +kernel) rfl ?_
      refine vx_iconst (n := 2) (q := 16) (by decide +kernel) ?_
      refine vx_retI (q := 17) (by decide +kernel) (by decide) ?_
      exact H
-- RuleHouseLaw.answer(LRuleHouse;II[J)I
theorem vg_213 {d : Nat} {h : ve_H} {P : Int → ve_H → Prop} {x2 : Int} {x3 : Int} (hT : vx_T 1 673 h) (H : vx_CXL d 7 [.ref 1, .int (vx_i x2), .int (vx_i x3)] h (fun r1 h1 => vx_T 1 673 h1 → (∀ h2, h2 = vx_sK h1 672 0 r1 → vx_T 1 673 h2 → P 0 h2)) (fun kx h1 => vx_T 1 673 h1 → (kx = 12 ∧ P 1 h1))) : vx_CI (d + 1) 213 [.ref 1, .int (vx_i x2), .int (vx_i x3), .ref 672] h P := by
  refine vx_enter (ml := 5) (by decide +kernel) ?_
  show vx_W _ _ 0 [some (.ref 1), some (.int (vx_i x2)), some (.int (vx_i x3)), some (.ref 672), none] [] h _
  refine vx_aload_n (n := 3) (q := 1) (by decide +kernel) rfl ?_
  refine vx_iconst (n := 0) (q := 2) (by decide +kernel) ?_
  refine vx_aload_n (n := 0) (q := 3) (by decide +kernel) rfl ?_
  refine vx_iload_n (n := 1) (q := 4) (by decide +kernel) rfl ?_
  refine vx_iload_n (n := 2) (q := 5) (by decide +kernel) rfl ?_
  refine vx_callXL (i := .invokevirtual 27) (how := 3) (cm := 7) (np := 3) (q := 8) (args := [.ref 1, .int (vx_i x2), .int (vx_i x3)]) (rest := [.int (vx_i 0), .ref 672]) (by decide +kernel) rfl rfl rfl (vx_w2 (w := 3) (ml := 3) rfl (by decide +kernel)) (vx_rcv (kd := 1) (vx_Tk hT (by decide +kernel)) (by decide +kernel)) H (fun r1 h1 hr1 hs1 H => ?_) (fun ax kx h1 hk1 hs1 H => ?_)
  · have hT1 := vx_Tsh hT hs1
    replace H := H hT1
    refine vx_lastore (z := 1) (q := 9) (by decide +kernel) (vx_Tk hT1 (by decide +kernel)) (vx_Tz hT1 (by decide +kernel)) (by decide) (fun h2 e2 => ?_)
    have hT2 := vx_TK hT1 e2
    replace H := H h2 e2 hT2
    refine vx_goto (off := 7) (q := 12) (t := 16) (by decide +kernel) ?_
    refine vx_iconst (n := 0) (q := 17) (by decide +kernel) ?_
    refine vx_retI (q := 18) (by decide +kernel) (by decide) ?_
    exact H
  · have hT1 := vx_Tsh hT hs1
    replace H := H hT1
    obtain ⟨hkd, H⟩ := H
    · refine ⟨12, by rw [hkd]; decide +kernel, ?_⟩
      refine vx_astore (n := 4) (q := 14) (lv' := [some (.ref 1), some (.int (vx_i x2)), some (.int (vx_i x3)), some (.ref 672), some (.ref ax)]) (by decide +kernel) rfl ?_
      refine vx_iconst (n := 1) (q := 15) (by decide +kernel) ?_
      refine vx_retI (q := 16) (by decide +kernel) (by decide) ?_
      exact H
-- RuleHouseLaw.tuple(LRuleHouse;III[J)I
theorem vg_214 {d : Nat} {h : ve_H} {P : Int → ve_H → Prop} {x2 : Int} {x3 : Int} {x4 : Int} (hT : vx_T 1 673 h) (H : vx_CXL d 10 [.ref 1, .int (vx_i x2), .int (vx_i x3), .int (vx_i x4)] h (fun r1 h1 => vx_T 1 673 h1 → (∀ h2, h2 = vx_sK h1 672 0 r1 → vx_T 1 673 h2 → P 0 h2)) (fun kx h1 => vx_T 1 673 h1 → (kx = 12 ∧ P 1 h1))) : vx_CI (d + 1) 214 [.ref 1, .int (vx_i x2), .int (vx_i x3), .int (vx_i x4), .ref 672] h P := by
  refine vx_enter (ml := 6) (by decide +kernel) ?_
  show vx_W _ _ 0 [some (.ref 1), some (.int (vx_i x2)), some (.int (vx_i x3)), some (.int (vx_i x4)), some (.ref 672), none] [] h _
  refine vx_aload (n := 4) (q := 2) (by decide +kernel) rfl ?_
  refine vx_iconst (n := 0) (q := 3) (by decide +kernel) ?_
  refine vx_aload_n (n := 0) (q := 4) (by decide +kernel) rfl ?_
  refine vx_iload_n (n := 1) (q := 5) (by decide +kernel) rfl ?_
  refine vx_iload_n (n := 2) (q := 6) (by decide +kernel) rfl ?_
  refine vx_iload_n (n := 3) (q := 7) (by decide +kernel) rfl ?_
  refine vx_callXL (i := .invokevirtual 33) (how := 3) (cm := 10) (np := 4) (q := 10) (args := [.ref 1, .int (vx_i x2), .int (vx_i x3), .int (vx_i x4)]) (rest := [.int (vx_i 0), .ref 672]) (by decide +kernel) rfl rfl rfl (vx_w2 (w := 4) (ml := 4) rfl (by decide +kernel)) (vx_rcv (kd := 1) (vx_Tk hT (by decide +kernel)) (by decide +kernel)) H (fun r1 h1 hr1 hs1 H => ?_) (fun ax kx h1 hk1 hs1 H => ?_)
  · have hT1 := vx_Tsh hT hs1
    replace H := H hT1
    refine vx_lastore (z := 1) (q := 11) (by decide +kernel) (vx_Tk hT1 (by decide +kernel)) (vx_Tz hT1 (by decide +kernel)) (by decide) (fun h2 e2 => ?_)
    have hT2 := vx_TK hT1 e2
    replace H := H h2 e2 hT2
    refine vx_goto (off := 7) (q := 14) (t := 18) (by decide +kernel) ?_
    refine vx_iconst (n := 0) (q := 19) (by decide +kernel) ?_
    refine vx_retI (q := 20) (by decide +kernel) (by decide) ?_
    exact H
  · have hT1 := vx_Tsh hT hs1
    replace H := H hT1
    obtain ⟨hkd, H⟩ := H
    · refine ⟨14, by rw [hkd]; decide +kernel, ?_⟩
      refine vx_astore (n := 5) (q := 16) (lv' := [some (.ref 1), some (.int (vx_i x2)), some (.int (vx_i x3)), some (.int (vx_i x4)), some (.ref 672), some (.ref ax)]) (by decide +kernel) rfl ?_
      refine vx_iconst (n := 1) (q := 17) (by decide +kernel) ?_
      refine vx_retI (q := 18) (by decide +kernel) (by decide) ?_
      exact H
-- RuleHouseLaw.round(LRuleHouse;II[J)I
theorem vg_215 {d : Nat} {h : ve_H} {P : Int → ve_H → Prop} {x2 : Int} {x3 : Int} (hT : vx_T 1 673 h) (H : vx_CX d 11 [.ref 1, .int (vx_i x2), .int (vx_i x3)] h (fun r1 h1 => vx_T 1 673 h1 → (∀ h2, h2 = vx_sK h1 672 0 r1 → vx_T 1 673 h2 → P 0 h2)) (fun kx h1 => vx_T 1 673 h1 → (kx = 12 ∧ P 1 h1))) : vx_CI (d + 1) 215 [.ref 1, .int (vx_i x2), .int (vx_i x3), .ref 672] h P := by
  refine vx_enter (ml := 5) (by decide +kernel) ?_
  show vx_W _ _ 0 [some (.ref 1), some (.int (vx_i x2)), some (.int (vx_i x3)), some (.ref 672), none] [] h _
  refine vx_aload_n (n := 3) (q := 1) (by decide +kernel) rfl ?_
  refine vx_iconst (n := 0) (q := 2) (by decide +kernel) ?_
  refine vx_aload_n (n := 0) (q := 3) (by decide +kernel) rfl ?_
  refine vx_iload_n (n := 1) (q := 4) (by decide +kernel) rfl ?_
  refine vx_iload_n (n := 2) (q := 5) (by decide +kernel) rfl ?_
  refine vx_callX (i := .invokevirtual 37) (how := 3) (cm := 11) (np := 3) (q := 8) (args := [.ref 1, .int (vx_i x2), .int (vx_i x3)]) (rest := [.int (vx_i 0), .ref 672]) (by decide +kernel) rfl rfl rfl (vx_w2 (w := 3) (ml := 3) rfl (by decide +kernel)) (vx_rcv (kd := 1) (vx_Tk hT (by decide +kernel)) (by decide +kernel)) H (fun r1 h1 hr1 hs1 H => ?_) (fun ax kx h1 hk1 hs1 H => ?_)
  · have hT1 := vx_Tsh hT hs1
    replace H := H hT1
    refine vx_i2l (q := 9) (by decide +kernel) hr1 ?_
    refine vx_lastore (z := 1) (q := 10) (by decide +kernel) (vx_Tk hT1 (by decide +kernel)) (vx_Tz hT1 (by decide +kernel)) (by decide) (fun h2 e2 => ?_)
    have hT2 := vx_TK hT1 e2
    replace H := H h2 e2 hT2
    refine vx_goto (off := 7) (q := 13) (t := 17) (by decide +kernel) ?_
    refine vx_iconst (n := 0) (q := 18) (by decide +kernel) ?_
    refine vx_retI (q := 19) (by decide +kernel) (by decide) ?_
    exact H
  · have hT1 := vx_Tsh hT hs1
    replace H := H hT1
    obtain ⟨hkd, H⟩ := H
    · refine ⟨13, by rw [hkd]; decide +kernel, ?_⟩
      refine vx_astore (n := 4) (q := 15) (lv' := [some (.ref 1), some (.int (vx_i x2)), some (.int (vx_i x3)), some (.ref 672), some (.ref ax)]) (by decide +kernel) rfl ?_
      refine vx_iconst (n := 1) (q := 16) (by decide +kernel) ?_
      refine vx_retI (q := 17) (by decide +kernel) (by decide) ?_
      exact H
-- the law, from its loop on
theorem vg_law {d L : Nat} {xs : Nat → Int32} {h : ve_H} {Q : ve_O → ve_H → Prop} {v4 : Int} {v5 v6 v7 : Option Value} (hL : L ≤ 10000) (hT : vx_TL L xs h) (H : (vx_rI v4) ∧ (vx_rI (((L : Nat)) - 4)) ∧ (((((L : Nat)) - 4) < v4 → Q (.inl (some (.int (vx_i 1)))) h) ∧ (v4 ≤ (((L : Nat)) - 4) → (0 ≤ v4 ∧ v4 < L) ∧ (((vx_and (vx_J h 0 v4.toNat) 15) = 0 → (0 ≤ (v4 + 1) ∧ (v4 + 1) < L) ∧ (0 ≤ (v4 + 2) ∧ (v4 + 2) < L) ∧ (0 ≤ (v4 + 3) ∧ (v4 + 3) < L) ∧ vx_CI d 1 [.ref 1, .long (vx_l (vx_lor (vx_lshl (vx_J h 0 (v4 + 1).toNat) 32) (vx_land (vx_J h 0 (v4 + 2).toNat) 4294967295))), .int (vx_i (vx_J h 0 (v4 + 3).toNat))] h (fun r9 h9 => vx_TL L xs h9 → (0 ≤ (v4 + 1) ∧ (v4 + 1) < L) ∧ (0 ≤ (v4 + 2) ∧ (v4 + 2) < L) ∧ (0 ≤ (v4 + 3) ∧ (v4 + 3) < L) ∧ vx_CI d 21 [.ref 625, .long (vx_l (vx_lor (vx_lshl (vx_J h9 0 (v4 + 1).toNat) 32) (vx_land (vx_J h9 0 (v4 + 2).toNat) 4294967295))), .int (vx_i (vx_J h9 0 (v4 + 3).toNat))] h9 (fun r13 h13 => vx_TL L xs h13 → ((r9 = r13 → vx_W (d + 1) 216 23 [some (.ref 0), some (.ref 1), some (.ref 625), some (.ref 672), some (.int (vx_i (v4 + 4))), v5, v6, v7] [] h13 Q) ∧ (r9 ≠ r13 → Q (.inl (some (.int (vx_i 0)))) h13))))) ∧ ((vx_and (vx_J h 0 v4.toNat) 15) = 1 → vx_CI d 209 [.ref 1, .ref 672] h (fun r15 h15 => vx_TL L xs h15 → vx_CI d 62 [.ref 625] h15 (fun r16 h16 => vx_TL L xs h16 → vx_CI d 19 [.ref 625] h16 (fun r17 h17 => vx_TL L xs h17 → ((r17 = r15 → ((r15 ≠ 0 → vx_W (d + 1) 216 23 [some (.ref 0), some (.ref 1), some (.ref 625), some (.ref 672), some (.int (vx_i (v4 + 4))), some (.int (vx_i r15)), some (.int (vx_i r16)), v7] [] h17 Q) ∧ (r15 = 0 → (((vx_K h17 672 0) = r16 → vx_W (d + 1) 216 23 [some (.ref 0), some (.ref 1), some (.ref 625), some (.ref 672), some (.int (vx_i (v4 + 4))), some (.int (vx_i r15)), some (.int (vx_i r16)), v7] [] h17 Q) ∧ ((vx_K h17 672 0) ≠ r16 → Q (.inl (some (.int (vx_i 0)))) h17))))) ∧ (r17 ≠ r15 → Q (.inl (some (.int (vx_i 0)))) h17)))))) ∧ ((vx_and (vx_J h 0 v4.toNat) 15) = 2 → (0 ≤ (v4 + 1) ∧ (v4 + 1) < L) ∧ vx_CI d 210 [.ref 1, .int (vx_i (vx_J h 0 (v4 + 1).toNat)), .ref 672] h (fun r22 h22 => vx_TL L xs h22 → (0 ≤ (v4 + 1) ∧ (v4 + 1) < L) ∧ vx_CI d 63 [.ref 625, .int (vx_i (vx_J h22 0 (v4 + 1).toNat))] h22 (fun r24 h24 => vx_TL L xs h24 → vx_CI d 19 [.ref 625] h24 (fun r25 h25 => vx_TL L xs h25 → ((r25 = r22 → ((r22 ≠ 0 → vx_W (d + 1) 216 23 [some (.ref 0), some (.ref 1), some (.ref 625), some (.ref 672), some (.int (vx_i (v4 + 4))), some (.int (vx_i r22)), some (.int (vx_i r24)), v7] [] h25 Q) ∧ (r22 = 0 → ((r24 = 0 → (((vx_K h25 672 0) = 0 → vx_W (d + 1) 216 23 [some (.ref 0), some (.ref 1), some (.ref 625), some (.ref 672), some (.int (vx_i (v4 + 4))), some (.int (vx_i r22)), some (.int (vx_i r24)), v7] [] h25 Q) ∧ ((vx_K h25 672 0) ≠ 0 → Q (.inl (some (.int (vx_i 0)))) h25))) ∧ (r24 ≠ 0 → (((vx_K h25 672 0) = 1 → vx_W (d + 1) 216 23 [some (.ref 0), some (.ref 1), some (.ref 625), some (.ref 672), some (.int (vx_i (v4 + 4))), some (.int (vx_i r22)), some (.int (vx_i r24)), v7] [] h25 Q) ∧ ((vx_K h25 672 0) ≠ 1 → Q (.inl (some (.int (vx_i 0)))) h25))))))) ∧ (r25 ≠ r22 → Q (.inl (some (.int (vx_i 0)))) h25)))))) ∧ ((vx_and (vx_J h 0 v4.toNat) 15) = 3 → (0 ≤ (v4 + 1) ∧ (v4 + 1) < L) ∧ vx_CI d 4 [.ref 1, .int (vx_i (vx_J h 0 (v4 + 1).toNat))] h (fun r32 h32 => vx_TL L xs h32 → (0 ≤ (v4 + 1) ∧ (v4 + 1) < L) ∧ vx_CI d 64 [.ref 625, .int (vx_i (vx_J h32 0 (v4 + 1).toNat))] h32 (fun r34 h34 => vx_TL L xs h34 → ((r32 = r34 → vx_W (d + 1) 216 23 [some (.ref 0), some (.ref 1), some (.ref 625), some (.ref 672), some (.int (vx_i (v4 + 4))), v5, v6, v7] [] h34 Q) ∧ (r32 ≠ r34 → Q (.inl (some (.int (vx_i 0)))) h34))))) ∧ ((vx_and (vx_J h 0 v4.toNat) 15) = 4 → vx_CI d 211 [.ref 1, .ref 672] h (fun r36 h36 => vx_TL L xs h36 → vx_CI d 91 [.ref 625] h36 (fun r37 h37 => vx_TL L xs h37 → vx_CI d 19 [.ref 625] h37 (fun r38 h38 => vx_TL L xs h38 → ((r38 = r36 → ((r36 ≠ 0 → vx_W (d + 1) 216 23 [some (.ref 0), some (.ref 1), some (.ref 625), some (.ref 672), some (.int (vx_i (v4 + 4))), some (.int (vx_i r36)), some (.int (vx_i r37)), v7] [] h38 Q) ∧ (r36 = 0 → (((vx_K h38 672 0) = r37 → vx_W (d + 1) 216 23 [some (.ref 0), some (.ref 1), some (.ref 625), some (.ref 672), some (.int (vx_i (v4 + 4))), some (.int (vx_i r36)), some (.int (vx_i r37)), v7] [] h38 Q) ∧ ((vx_K h38 672 0) ≠ r37 → Q (.inl (some (.int (vx_i 0)))) h38))))) ∧ (r38 ≠ r36 → Q (.inl (some (.int (vx_i 0)))) h38)))))) ∧ ((vx_and (vx_J h 0 v4.toNat) 15) = 5 → vx_CI d 212 [.ref 1, .ref 672] h (fun r42 h42 => vx_TL L xs h42 → vx_CI d 94 [.ref 625] h42 (fun r43 h43 => vx_TL L xs h43 → vx_CI d 19 [.ref 625] h43 (fun r44 h44 => vx_TL L xs h44 → ((r44 = r42 → ((r42 ≠ 0 → vx_W (d + 1) 216 23 [some (.ref 0), some (.ref 1), some (.ref 625), some (.ref 672), some (.int (vx_i (v4 + 4))), some (.int (vx_i r42)), some (.int (vx_i r43)), v7] [] h44 Q) ∧ (r42 = 0 → (((vx_K h44 672 0) = r43 → vx_W (d + 1) 216 23 [some (.ref 0), some (.ref 1), some (.ref 625), some (.ref 672), some (.int (vx_i (v4 + 4))), some (.int (vx_i r42)), some (.int (vx_i r43)), v7] [] h44 Q) ∧ ((vx_K h44 672 0) ≠ r43 → Q (.inl (some (.int (vx_i 0)))) h44))))) ∧ (r44 ≠ r42 → Q (.inl (some (.int (vx_i 0)))) h44)))))) ∧ ((vx_and (vx_J h 0 v4.toNat) 15) = 6 → (0 ≤ (v4 + 1) ∧ (v4 + 1) < L) ∧ (0 ≤ (v4 + 2) ∧ (v4 + 2) < L) ∧ vx_CI d 213 [.ref 1, .int (vx_i (vx_J h 0 (v4 + 1).toNat)), .int (vx_i (vx_J h 0 (v4 + 2).toNat)), .ref 672] h (fun r50 h50 => vx_TL L xs h50 → (0 ≤ (v4 + 1) ∧ (v4 + 1) < L) ∧ (0 ≤ (v4 + 2) ∧ (v4 + 2) < L) ∧ vx_CL d 95 [.ref 625, .int (vx_i (vx_J h50 0 (v4 + 1).toNat)), .int (vx_i (vx_J h50 0 (v4 + 2).toNat))] h50 (fun r53 h53 => vx_TL L xs h53 → vx_CI d 19 [.ref 625] h53 (fun r54 h54 => vx_TL L xs h54 → ((r54 = r50 → ((r50 ≠ 0 → vx_W (d + 1) 216 23 [some (.ref 0), some (.ref 1), some (.ref 625), some (.ref 672), some (.int (vx_i (v4 + 4))), some (.int (vx_i r50)), some (.long (vx_l r53)), none] [] h54 Q) ∧ (r50 = 0 → (((vx_K h54 672 0) = r53 → vx_W (d + 1) 216 23 [some (.ref 0), some (.ref 1), some (.ref 625), some (.ref 672), some (.int (vx_i (v4 + 4))), some (.int (vx_i r50)), some (.long (vx_l r53)), none] [] h54 Q) ∧ ((vx_K h54 672 0) ≠ r53 → Q (.inl (some (.int (vx_i 0)))) h54))))) ∧ (r54 ≠ r50 → Q (.inl (some (.int (vx_i 0)))) h54)))))) ∧ ((vx_and (vx_J h 0 v4.toNat) 15) = 7 → (0 ≤ (v4 + 1) ∧ (v4 + 1) < L) ∧ vx_CI d 8 [.ref 1, .int (vx_i (vx_J h 0 (v4 + 1).toNat))] h (fun r59 h59 => vx_TL L xs h59 → (0 ≤ (v4 + 1) ∧ (v4 + 1) < L) ∧ vx_CI d 97 [.ref 625, .int (vx_i (vx_J h59 0 (v4 + 1).toNat))] h59 (fun r61 h61 => vx_TL L xs h61 → ((r59 = r61 → vx_W (d + 1) 216 23 [some (.ref 0), some (.ref 1), some (.ref 625), some (.ref 672), some (.int (vx_i (v4 + 4))), v5, v6, v7] [] h61 Q) ∧ (r59 ≠ r61 → Q (.inl (some (.int (vx_i 0)))) h61))))) ∧ ((vx_and (vx_J h 0 v4.toNat) 15) = 8 → (0 ≤ (v4 + 1) ∧ (v4 + 1) < L) ∧ (0 ≤ (v4 + 2) ∧ (v4 + 2) < L) ∧ vx_CI d 9 [.ref 1, .int (vx_i (vx_J h 0 (v4 + 1).toNat)), .int (vx_i (vx_J h 0 (v4 + 2).toNat))] h (fun r65 h65 => vx_TL L xs h65 → (0 ≤ (v4 + 1) ∧ (v4 + 1) < L) ∧ (0 ≤ (v4 + 2) ∧ (v4 + 2) < L) ∧ vx_CI d 99 [.ref 625, .int (vx_i (vx_J h65 0 (v4 + 1).toNat)), .int (vx_i (vx_J h65 0 (v4 + 2).toNat))] h65 (fun r68 h68 => vx_TL L xs h68 → ((r65 = r68 → vx_W (d + 1) 216 23 [some (.ref 0), some (.ref 1), some (.ref 625), some (.ref 672), some (.int (vx_i (v4 + 4))), v5, v6, v7] [] h68 Q) ∧ (r65 ≠ r68 → Q (.inl (some (.int (vx_i 0)))) h68))))) ∧ ((vx_and (vx_J h 0 v4.toNat) 15) = 9 → (0 ≤ (v4 + 1) ∧ (v4 + 1) < L) ∧ (0 ≤ (v4 + 2) ∧ (v4 + 2) < L) ∧ (0 ≤ (v4 + 3) ∧ (v4 + 3) < L) ∧ vx_CI d 214 [.ref 1, .int (vx_i (vx_J h 0 (v4 + 1).toNat)), .int (vx_i (vx_J h 0 (v4 + 2).toNat)), .int (vx_i (vx_J h 0 (v4 + 3).toNat)), .ref 672] h (fun r73 h73 => vx_TL L xs h73 → (0 ≤ (v4 + 1) ∧ (v4 + 1) < L) ∧ (0 ≤ (v4 + 2) ∧ (v4 + 2) < L) ∧ (0 ≤ (v4 + 3) ∧ (v4 + 3) < L) ∧ vx_CL d 102 [.ref 625, .int (vx_i (vx_J h73 0 (v4 + 1).toNat)), .int (vx_i (vx_J h73 0 (v4 + 2).toNat)), .int (vx_i (vx_J h73 0 (v4 + 3).toNat))] h73 (fun r77 h77 => vx_TL L xs h77 → vx_CI d 19 [.ref 625] h77 (fun r78 h78 => vx_TL L xs h78 → ((r78 = r73 → ((r73 ≠ 0 → vx_W (d + 1) 216 23 [some (.ref 0), some (.ref 1), some (.ref 625), some (.ref 672), some (.int (vx_i (v4 + 4))), some (.int (vx_i r73)), some (.long (vx_l r77)), none] [] h78 Q) ∧ (r73 = 0 → (((vx_K h78 672 0) = r77 → vx_W (d + 1) 216 23 [some (.ref 0), some (.ref 1), some (.ref 625), some (.ref 672), some (.int (vx_i (v4 + 4))), some (.int (vx_i r73)), some (.long (vx_l r77)), none] [] h78 Q) ∧ ((vx_K h78 672 0) ≠ r77 → Q (.inl (some (.int (vx_i 0)))) h78))))) ∧ (r78 ≠ r73 → Q (.inl (some (.int (vx_i 0)))) h78)))))) ∧ ((vx_and (vx_J h 0 v4.toNat) 15) = 10 → (0 ≤ (v4 + 1) ∧ (v4 + 1) < L) ∧ (0 ≤ (v4 + 2) ∧ (v4 + 2) < L) ∧ vx_CI d 215 [.ref 1, .int (vx_i (vx_J h 0 (v4 + 1).toNat)), .int (vx_i (vx_J h 0 (v4 + 2).toNat)), .ref 672] h (fun r84 h84 => vx_TL L xs h84 → (0 ≤ (v4 + 1) ∧ (v4 + 1) < L) ∧ (0 ≤ (v4 + 2) ∧ (v4 + 2) < L) ∧ vx_CI d 103 [.ref 625, .int (vx_i (vx_J h84 0 (v4 + 1).toNat)), .int (vx_i (vx_J h84 0 (v4 + 2).toNat))] h84 (fun r87 h87 => vx_TL L xs h87 → vx_CI d 19 [.ref 625] h87 (fun r88 h88 => vx_TL L xs h88 → ((r88 = r84 → ((r84 ≠ 0 → vx_W (d + 1) 216 23 [some (.ref 0), some (.ref 1), some (.ref 625), some (.ref 672), some (.int (vx_i (v4 + 4))), some (.int (vx_i r84)), some (.int (vx_i r87)), v7] [] h88 Q) ∧ (r84 = 0 → (((vx_K h88 672 0) = r87 → vx_W (d + 1) 216 23 [some (.ref 0), some (.ref 1), some (.ref 625), some (.ref 672), some (.int (vx_i (v4 + 4))), some (.int (vx_i r84)), some (.int (vx_i r87)), v7] [] h88 Q) ∧ ((vx_K h88 672 0) ≠ r87 → Q (.inl (some (.int (vx_i 0)))) h88))))) ∧ (r88 ≠ r84 → Q (.inl (some (.int (vx_i 0)))) h88)))))) ∧ ((vx_and (vx_J h 0 v4.toNat) 15) ≠ 0 ∧ (vx_and (vx_J h 0 v4.toNat) 15) ≠ 1 ∧ (vx_and (vx_J h 0 v4.toNat) 15) ≠ 2 ∧ (vx_and (vx_J h 0 v4.toNat) 15) ≠ 3 ∧ (vx_and (vx_J h 0 v4.toNat) 15) ≠ 4 ∧ (vx_and (vx_J h 0 v4.toNat) 15) ≠ 5 ∧ (vx_and (vx_J h 0 v4.toNat) 15) ≠ 6 ∧ (vx_and (vx_J h 0 v4.toNat) 15) ≠ 7 ∧ (vx_and (vx_J h 0 v4.toNat) 15) ≠ 8 ∧ (vx_and (vx_J h 0 v4.toNat) 15) ≠ 9 ∧ (vx_and (vx_J h 0 v4.toNat) 15) ≠ 10 ∧ True → vx_W (d + 1) 216 23 [some (.ref 0), some (.ref 1), some (.ref 625), some (.ref 672), some (.int (vx_i (v4 + 4))), v5, v6, v7] [] h Q))))) : vx_W (d + 1) 216 23 [some (.ref 0), some (.ref 1), some (.ref 625), some (.ref 672), some (.int (vx_i v4)), v5, v6, v7] [] h Q := by
  refine vx_iload (n := 4) (q := 25) (by decide +kernel) rfl ?_
  refine vx_aload_n (n := 0) (q := 26) (by decide +kernel) rfl ?_
  refine vx_alen (q := 27) (by decide +kernel) (by rw [hT.2.1]; decide) ?_
  rw [hT.2.2.1]
  refine vx_iconst (n := 4) (q := 28) (by decide +kernel) ?_
  refine vx_isub (q := 29) (by decide +kernel) ?_
  obtain ⟨k1, H⟩ := H
  obtain ⟨k2, H⟩ := H
  refine vx_icmp_gt (off := 638) (q := 32) (t := 667) (by decide +kernel) k1 k2 (fun c3 => ?_) (fun c3 => ?_)
  · replace H := H.1 c3
    refine vx_iconst (n := 1) (q := 668) (by decide +kernel) ?_
    refine vx_retZQ (q := 669) (by decide +kernel) (Or.inr rfl) ?_
    exact H
  · replace H := H.2 c3
    refine vx_aload_n (n := 0) (q := 33) (by decide +kernel) rfl ?_
    refine vx_iload (n := 4) (q := 35) (by decide +kernel) rfl ?_
    obtain ⟨k4, H⟩ := H
    refine vx_iaload30 (z := L) (q := 36) (by decide +kernel) hT.2.1 hT.2.2.1 (vx_ix k4 hL) ?_
    refine vx_bipush (n := 15) (q := 38) (by decide +kernel) ?_
    refine vx_iand (q := 39) (by decide +kernel) ?_
    refine vx_tsw (dd := 622) (lo := 0) (hi := 10) (offs := #[57, 126, 170, 233, 258, 302, 346, 413, 438, 475, 554]) (tl := [(0, 96), (1, 165), (2, 209), (3, 272), (4, 297), (5, 341), (6, 385), (7, 452), (8, 477), (9, 514), (10, 593)]) (td := 661) (q := 96) (by decide +kernel) (vx_rI_toInt _) ⟨fun c5 => ?_, fun c5 => ?_, fun c5 => ?_, fun c5 => ?_, fun c5 => ?_, fun c5 => ?_, fun c5 => ?_, fun c5 => ?_, fun c5 => ?_, fun c5 => ?_, fun c5 => ?_, trivial⟩ (fun c5 => ?_)
    · replace H := H.1 c5
      refine vx_aload_n (n := 1) (q := 97) (by decide +kernel) rfl ?_
      refine vx_aload_n (n := 0) (q := 98) (by decide +kernel) rfl ?_
      refine vx_iload (n := 4) (q := 100) (by decide +kernel) rfl ?_
      refine vx_iconst (n := 1) (q := 101) (by decide +kernel) ?_
      refine vx_iadd (q := 102) (by decide +kernel) ?_
      obtain ⟨k6, H⟩ := H
      refine vx_iaload30 (z := L) (q := 103) (by decide +kernel) hT.2.1 hT.2.2.1 (vx_ix k6 hL) ?_
      refine vx_i2l (q := 104) (by decide +kernel) (vx_rI_J h 0 (v4 + 1).toNat) ?_
      refine vx_bipush (n := 32) (q := 106) (by decide +kernel) ?_
      refine vx_lshl1 (q := 107) (by decide +kernel) ?_
      refine vx_aload_n (n := 0) (q := 108) (by decide +kernel) rfl ?_
      refine vx_iload (n := 4) (q := 110) (by decide +kernel) rfl ?_
      refine vx_iconst (n := 2) (q := 111) (by decide +kernel) ?_
      refine vx_iadd (q := 112) (by decide +kernel) ?_
      obtain ⟨k7, H⟩ := H
      refine vx_iaload30 (z := L) (q := 113) (by decide +kernel) hT.2.1 hT.2.2.1 (vx_ix k7 hL) ?_
      refine vx_i2l (q := 114) (by decide +kernel) (vx_rI_J h 0 (v4 + 2).toNat) ?_
      refine vx_ldc (idx := 45) (v := 4294967295) (m := 4294967295) (q := 117) (by decide +kernel) ?_
      refine vx_land1 (q := 118) (by decide +kernel) ?_
      refine vx_lor1 (q := 119) (by decide +kernel) ?_
      refine vx_aload_n (n := 0) (q := 120) (by decide +kernel) rfl ?_
      refine vx_iload (n := 4) (q := 122) (by decide +kernel) rfl ?_
      refine vx_iconst (n := 3) (q := 123) (by decide +kernel) ?_
      refine vx_iadd (q := 124) (by decide +kernel) ?_
      obtain ⟨k8, H⟩ := H
      refine vx_iaload30 (z := L) (q := 125) (by decide +kernel) hT.2.1 hT.2.2.1 (vx_ix k8 hL) ?_
      refine vx_callI (i := .invokevirtual 47) (how := 3) (cm := 1) (np := 3) (q := 128) (args := [.ref 1, .long (vx_l (vx_lor (vx_lshl (vx_J h 0 (v4 + 1).toNat) 32) (vx_land (vx_J h 0 (v4 + 2).toNat) 4294967295))), .int (vx_i (vx_J h 0 (v4 + 3).toNat))]) (rest := []) (by decide +kernel) rfl rfl rfl (vx_w2 (w := 4) (ml := 4) rfl (by decide +kernel)) (vx_rcv (kd := 1) (vx_Tk hT.1 (by decide +kernel)) (by decide +kernel)) H (fun r9 h9 hr9 hs9 H => ?_)
      have hT9 := vx_TLsh hT hs9
      replace H := H hT9
      refine vx_aload_n (n := 2) (q := 129) (by decide +kernel) rfl ?_
      refine vx_aload_n (n := 0) (q := 130) (by decide +kernel) rfl ?_
      refine vx_iload (n := 4) (q := 132) (by decide +kernel) rfl ?_
      refine vx_iconst (n := 1) (q := 133) (by decide +kernel) ?_
      refine vx_iadd (q := 134) (by decide +kernel) ?_
      obtain ⟨k10, H⟩ := H
      refine vx_iaload30 (z := L) (q := 135) (by decide +kernel) hT9.2.1 hT9.2.2.1 (vx_ix k10 hL) ?_
      refine vx_i2l (q := 136) (by decide +kernel) (vx_rI_J h9 0 (v4 + 1).toNat) ?_
      refine vx_bipush (n := 32) (q := 138) (by decide +kernel) ?_
      refine vx_lshl1 (q := 139) (by decide +kernel) ?_
      refine vx_aload_n (n := 0) (q := 140) (by decide +kernel) rfl ?_
      refine vx_iload (n := 4) (q := 142) (by decide +kernel) rfl ?_
      refine vx_iconst (n := 2) (q := 143) (by decide +kernel) ?_
      refine vx_iadd (q := 144) (by decide +kernel) ?_
      obtain ⟨k11, H⟩ := H
      refine vx_iaload30 (z := L) (q := 145) (by decide +kernel) hT9.2.1 hT9.2.2.1 (vx_ix k11 hL) ?_
      refine vx_i2l (q := 146) (by decide +kernel) (vx_rI_J h9 0 (v4 + 2).toNat) ?_
      refine vx_ldc (idx := 45) (v := 4294967295) (m := 4294967295) (q := 149) (by decide +kernel) ?_
      refine vx_land1 (q := 150) (by decide +kernel) ?_
      refine vx_lor1 (q := 151) (by decide +kernel) ?_
      refine vx_aload_n (n := 0) (q := 152) (by decide +kernel) rfl ?_
      refine vx_iload (n := 4) (q := 154) (by decide +kernel) rfl ?_
      refine vx_iconst (n := 3) (q := 155) (by decide +kernel) ?_
      refine vx_iadd (q := 156) (by decide +kernel) ?_
      obtain ⟨k12, H⟩ := H
      refine vx_iaload30 (z := L) (q := 157) (by decide +kernel) hT9.2.1 hT9.2.2.1 (vx_ix k12 hL) ?_
      refine vx_callI (i := .invokevirtual 51) (how := 3) (cm := 21) (np := 3) (q := 160) (args := [.ref 625, .long (vx_l (vx_lor (vx_lshl (vx_J h9 0 (v4 + 1).toNat) 32) (vx_land (vx_J h9 0 (v4 + 2).toNat) 4294967295))), .int (vx_i (vx_J h9 0 (v4 + 3).toNat))]) (rest := [.int (vx_i r9)]) (by decide +kernel) rfl rfl rfl (vx_w2 (w := 4) (ml := 6) rfl (by decide +kernel)) (vx_rcv (kd := 9) (vx_Tk hT9.1 (by decide +kernel)) (by decide +kernel)) H (fun r13 h13 hr13 hs13 H => ?_)
      have hT13 := vx_TLsh hT9 hs13
      replace H := H hT13
      refine vx_icmp_eq (off := 501) (q := 163) (t := 661) (by decide +kernel) hr9 hr13 (fun c14 => ?_) (fun c14 => ?_)
      · replace H := H.1 c14
        refine vx_iinc (n := 4) (m := 4) (x := v4) (q := 664) (lv' := [some (.ref 0), some (.ref 1), some (.ref 625), some (.ref 672), some (.int (vx_i (v4 + 4))), v5, v6, v7]) (by decide +kernel) rfl rfl ?_
        refine vx_goto (off := (-641)) (q := 667) (t := 23) (by decide +kernel) ?_
        exact H
      · replace H := H.2 c14
        refine vx_iconst (n := 0) (q := 164) (by decide +kernel) ?_
        refine vx_retZQ (q := 165) (by decide +kernel) (Or.inl rfl) ?_
        exact H
    · replace H := H.2.1 c5
      refine vx_aload_n (n := 1) (q := 166) (by decide +kernel) rfl ?_
      refine vx_aload_n (n := 3) (q := 167) (by decide +kernel) rfl ?_
      refine vx_callI (i := .invokestatic 52) (how := 4) (cm := 209) (np := 2) (q := 170) (args := [.ref 1, .ref 672]) (rest := []) (by decide +kernel) rfl rfl rfl (vx_w2 (w := 2) (ml := 3) rfl (by decide +kernel)) rfl H (fun r15 h15 hr15 hs15 H => ?_)
      have hT15 := vx_TLsh hT hs15
      replace H := H hT15
      refine vx_istore (n := 5) (q := 172) (lv' := [some (.ref 0), some (.ref 1), some (.ref 625), some (.ref 672), some (.int (vx_i v4)), some (.int (vx_i r15)), v6, v7]) (by decide +kernel) rfl ?_
      refine vx_aload_n (n := 2) (q := 173) (by decide +kernel) rfl ?_
      refine vx_callI (i := .invokevirtual 57) (how := 3) (cm := 62) (np := 1) (q := 176) (args := [.ref 625]) (rest := []) (by decide +kernel) rfl rfl rfl (vx_w2 (w := 1) (ml := 2) rfl (by decide +kernel)) (vx_rcv (kd := 9) (vx_Tk hT15.1 (by decide +kernel)) (by decide +kernel)) H (fun r16 h16 hr16 hs16 H => ?_)
      have hT16 := vx_TLsh hT15 hs16
      replace H := H hT16
      refine vx_istore (n := 6) (q := 178) (lv' := [some (.ref 0), some (.ref 1), some (.ref 625), some (.ref 672), some (.int (vx_i v4)), some (.int (vx_i r15)), some (.int (vx_i r16)), v7]) (by decide +kernel) rfl ?_
      refine vx_aload_n (n := 2) (q := 179) (by decide +kernel) rfl ?_
      refine vx_callI (i := .invokevirtual 58) (how := 3) (cm := 19) (np := 1) (q := 182) (args := [.ref 625]) (rest := []) (by decide +kernel) rfl rfl rfl (vx_w2 (w := 1) (ml := 1) rfl (by decide +kernel)) (vx_rcv (kd := 9) (vx_Tk hT16.1 (by decide +kernel)) (by decide +kernel)) H (fun r17 h17 hr17 hs17 H => ?_)
      have hT17 := vx_TLsh hT16 hs17
      replace H := H hT17
      refine vx_iload (n := 5) (q := 184) (by decide +kernel) rfl ?_
      refine vx_icmp_eq (off := 5) (q := 187) (t := 189) (by decide +kernel) hr17 hr15 (fun c18 => ?_) (fun c18 => ?_)
      · replace H := H.1 c18
        refine vx_iload (n := 5) (q := 191) (by decide +kernel) rfl ?_
        refine vx_if0_ne (off := 15) (q := 194) (t := 206) (by decide +kernel) hr15 (fun c19 => ?_) (fun c19 => ?_)
        · replace H := H.1 c19
          refine vx_goto (off := 455) (q := 209) (t := 661) (by decide +kernel) ?_
          refine vx_iinc (n := 4) (m := 4) (x := v4) (q := 664) (lv' := [some (.ref 0), some (.ref 1), some (.ref 625), some (.ref 672), some (.int (vx_i (v4 + 4))), some (.int (vx_i r15)), some (.int (vx_i r16)), v7]) (by decide +kernel) rfl rfl ?_
          refine vx_goto (off := (-641)) (q := 667) (t := 23) (by decide +kernel) ?_
          exact H
        · replace H := H.2 c19
          refine vx_aload_n (n := 3) (q := 195) (by decide +kernel) rfl ?_
          refine vx_iconst (n := 0) (q := 196) (by decide +kernel) ?_
          refine vx_laload (z := 1) (q := 197) (by decide +kernel) (vx_Tk hT17.1 (by decide +kernel)) (vx_Tz hT17.1 (by decide +kernel)) (by decide) ?_
          refine vx_iload (n := 6) (q := 199) (by decide +kernel) rfl ?_
          refine vx_i2l (q := 200) (by decide +kernel) hr16 ?_
          refine vx_lc_eq (off := 5) (p := 201) (q := 204) (t := 206) (by decide +kernel) (vx_rL_K h17 672 0) (vx_IL hr16) (fun c20 => ?_) (fun c20 => ?_)
          · replace H := H.1 c20
            refine vx_goto (off := 455) (q := 209) (t := 661) (by decide +kernel) ?_
            refine vx_iinc (n := 4) (m := 4) (x := v4) (q := 664) (lv' := [some (.ref 0), some (.ref 1), some (.ref 625), some (.ref 672), some (.int (vx_i (v4 + 4))), some (.int (vx_i r15)), some (.int (vx_i r16)), v7]) (by decide +kernel) rfl rfl ?_
            refine vx_goto (off := (-641)) (q := 667) (t := 23) (by decide +kernel) ?_
            exact H
          · replace H := H.2 c20
            refine vx_iconst (n := 0) (q := 205) (by decide +kernel) ?_
            refine vx_retZQ (q := 206) (by decide +kernel) (Or.inl rfl) ?_
            exact H
      · replace H := H.2 c18
        refine vx_iconst (n := 0) (q := 188) (by decide +kernel) ?_
        refine vx_retZQ (q := 189) (by decide +kernel) (Or.inl rfl) ?_
        exact H
    · replace H := H.2.2.1 c5
      refine vx_aload_n (n := 1) (q := 210) (by decide +kernel) rfl ?_
      refine vx_aload_n (n := 0) (q := 211) (by decide +kernel) rfl ?_
      refine vx_iload (n := 4) (q := 213) (by decide +kernel) rfl ?_
      refine vx_iconst (n := 1) (q := 214) (by decide +kernel) ?_
      refine vx_iadd (q := 215) (by decide +kernel) ?_
      obtain ⟨k21, H⟩ := H
      refine vx_iaload30 (z := L) (q := 216) (by decide +kernel) hT.2.1 hT.2.2.1 (vx_ix k21 hL) ?_
      refine vx_aload_n (n := 3) (q := 217) (by decide +kernel) rfl ?_
      refine vx_callI (i := .invokestatic 61) (how := 4) (cm := 210) (np := 3) (q := 220) (args := [.ref 1, .int (vx_i (vx_J h 0 (v4 + 1).toNat)), .ref 672]) (rest := []) (by decide +kernel) rfl rfl rfl (vx_w2 (w := 3) (ml := 4) rfl (by decide +kernel)) rfl H (fun r22 h22 hr22 hs22 H => ?_)
      have hT22 := vx_TLsh hT hs22
      replace H := H hT22
      refine vx_istore (n := 5) (q := 222) (lv' := [some (.ref 0), some (.ref 1), some (.ref 625), some (.ref 672), some (.int (vx_i v4)), some (.int (vx_i r22)), v6, v7]) (by decide +kernel) rfl ?_
      refine vx_aload_n (n := 2) (q := 223) (by decide +kernel) rfl ?_
      refine vx_aload_n (n := 0) (q := 224) (by decide +kernel) rfl ?_
      refine vx_iload (n := 4) (q := 226) (by decide +kernel) rfl ?_
      refine vx_iconst (n := 1) (q := 227) (by decide +kernel) ?_
      refine vx_iadd (q := 228) (by decide +kernel) ?_
      obtain ⟨k23, H⟩ := H
      refine vx_iaload30 (z := L) (q := 229) (by decide +kernel) hT22.2.1 hT22.2.2.1 (vx_ix k23 hL) ?_
      refine vx_callI (i := .invokevirtual 64) (how := 3) (cm := 63) (np := 2) (q := 232) (args := [.ref 625, .int (vx_i (vx_J h22 0 (v4 + 1).toNat))]) (rest := []) (by decide +kernel) rfl rfl rfl (vx_w2 (w := 2) (ml := 6) rfl (by decide +kernel)) (vx_rcv (kd := 9) (vx_Tk hT22.1 (by decide +kernel)) (by decide +kernel)) H (fun r24 h24 hr24 hs24 H => ?_)
      have hT24 := vx_TLsh hT22 hs24
      replace H := H hT24
      refine vx_istore (n := 6) (q := 234) (lv' := [some (.ref 0), some (.ref 1), some (.ref 625), some (.ref 672), some (.int (vx_i v4)), some (.int (vx_i r22)), some (.int (vx_i r24)), v7]) (by decide +kernel) rfl ?_
      refine vx_aload_n (n := 2) (q := 235) (by decide +kernel) rfl ?_
      refine vx_callI (i := .invokevirtual 58) (how := 3) (cm := 19) (np := 1) (q := 238) (args := [.ref 625]) (rest := []) (by decide +kernel) rfl rfl rfl (vx_w2 (w := 1) (ml := 1) rfl (by decide +kernel)) (vx_rcv (kd := 9) (vx_Tk hT24.1 (by decide +kernel)) (by decide +kernel)) H (fun r25 h25 hr25 hs25 H => ?_)
      have hT25 := vx_TLsh hT24 hs25
      replace H := H hT25
      refine vx_iload (n := 5) (q := 240) (by decide +kernel) rfl ?_
      refine vx_icmp_eq (off := 5) (q := 243) (t := 245) (by decide +kernel) hr25 hr22 (fun c26 => ?_) (fun c26 => ?_)
      · replace H := H.1 c26
        refine vx_iload (n := 5) (q := 247) (by decide +kernel) rfl ?_
        refine vx_if0_ne (off := 22) (q := 250) (t := 269) (by decide +kernel) hr22 (fun c27 => ?_) (fun c27 => ?_)
        · replace H := H.1 c27
          refine vx_goto (off := 392) (q := 272) (t := 661) (by decide +kernel) ?_
          refine vx_iinc (n := 4) (m := 4) (x := v4) (q := 664) (lv' := [some (.ref 0), some (.ref 1), some (.ref 625), some (.ref 672), some (.int (vx_i (v4 + 4))), some (.int (vx_i r22)), some (.int (vx_i r24)), v7]) (by decide +kernel) rfl rfl ?_
          refine vx_goto (off := (-641)) (q := 667) (t := 23) (by decide +kernel) ?_
          exact H
        · replace H := H.2 c27
          refine vx_aload_n (n := 3) (q := 251) (by decide +kernel) rfl ?_
          refine vx_iconst (n := 0) (q := 252) (by decide +kernel) ?_
          refine vx_laload (z := 1) (q := 253) (by decide +kernel) (vx_Tk hT25.1 (by decide +kernel)) (vx_Tz hT25.1 (by decide +kernel)) (by decide) ?_
          refine vx_iload (n := 6) (q := 255) (by decide +kernel) rfl ?_
          refine vx_if0_eq (off := 7) (q := 258) (t := 262) (by decide +kernel) hr24 (fun c28 => ?_) (fun c28 => ?_)
          · replace H := H.1 c28
            refine vx_lconst (n := 0) (m := 0) (q := 263) (by decide +kernel) ?_
            refine vx_lc_eq (off := 5) (p := 264) (q := 267) (t := 269) (by decide +kernel) (vx_rL_K h25 672 0) (by decide) (fun c29 => ?_) (fun c29 => ?_)
            · replace H := H.1 c29
              refine vx_goto (off := 392) (q := 272) (t := 661) (by decide +kernel) ?_
              refine vx_iinc (n := 4) (m := 4) (x := v4) (q := 664) (lv' := [some (.ref 0), some (.ref 1), some (.ref 625), some (.ref 672), some (.int (vx_i (v4 + 4))), some (.int (vx_i r22)), some (.int (vx_i r24)), v7]) (by decide +kernel) rfl rfl ?_
              refine vx_goto (off := (-641)) (q := 667) (t := 23) (by decide +kernel) ?_
              exact H
            · replace H := H.2 c29
              refine vx_iconst (n := 0) (q := 268) (by decide +kernel) ?_
              refine vx_retZQ (q := 269) (by decide +kernel) (Or.inl rfl) ?_
              exact H
          · replace H := H.2 c28
            refine vx_lconst (n := 1) (m := 1) (q := 259) (by decide +kernel) ?_
            refine vx_goto (off := 4) (q := 262) (t := 263) (by decide +kernel) ?_
            refine vx_lc_eq (off := 5) (p := 264) (q := 267) (t := 269) (by decide +kernel) (vx_rL_K h25 672 0) (by decide) (fun c30 => ?_) (fun c30 => ?_)
            · replace H := H.1 c30
              refine vx_goto (off := 392) (q := 272) (t := 661) (by decide +kernel) ?_
              refine vx_iinc (n := 4) (m := 4) (x := v4) (q := 664) (lv' := [some (.ref 0), some (.ref 1), some (.ref 625), some (.ref 672), some (.int (vx_i (v4 + 4))), some (.int (vx_i r22)), some (.int (vx_i r24)), v7]) (by decide +kernel) rfl rfl ?_
              refine vx_goto (off := (-641)) (q := 667) (t := 23) (by decide +kernel) ?_
              exact H
            · replace H := H.2 c30
              refine vx_iconst (n := 0) (q := 268) (by decide +kernel) ?_
              refine vx_retZQ (q := 269) (by decide +kernel) (Or.inl rfl) ?_
              exact H
      · replace H := H.2 c26
        refine vx_iconst (n := 0) (q := 244) (by decide +kernel) ?_
        refine vx_retZQ (q := 245) (by decide +kernel) (Or.inl rfl) ?_
        exact H
    · replace H := H.2.2.2.1 c5
      refine vx_aload_n (n := 1) (q := 273) (by decide +kernel) rfl ?_
      refine vx_aload_n (n := 0) (q := 274) (by decide +kernel) rfl ?_
      refine vx_iload (n := 4) (q := 276) (by decide +kernel) rfl ?_
      refine vx_iconst (n := 1) (q := 277) (by decide +kernel) ?_
      refine vx_iadd (q := 278) (by decide +kernel) ?_
      obtain ⟨k31, H⟩ := H
      refine vx_iaload30 (z := L) (q := 279) (by decide +kernel) hT.2.1 hT.2.2.1 (vx_ix k31 hL) ?_
      refine vx_callI (i := .invokevirtual 65) (how := 3) (cm := 4) (np := 2) (q := 282) (args := [.ref 1, .int (vx_i (vx_J h 0 (v4 + 1).toNat))]) (rest := []) (by decide +kernel) rfl rfl rfl (vx_w2 (w := 2) (ml := 2) rfl (by decide +kernel)) (vx_rcv (kd := 1) (vx_Tk hT.1 (by decide +kernel)) (by decide +kernel)) H (fun r32 h32 hr32 hs32 H => ?_)
      have hT32 := vx_TLsh hT hs32
      replace H := H hT32
      refine vx_aload_n (n := 2) (q := 283) (by decide +kernel) rfl ?_
      refine vx_aload_n (n := 0) (q := 284) (by decide +kernel) rfl ?_
      refine vx_iload (n := 4) (q := 286) (by decide +kernel) rfl ?_
      refine vx_iconst (n := 1) (q := 287) (by decide +kernel) ?_
      refine vx_iadd (q := 288) (by decide +kernel) ?_
      obtain ⟨k33, H⟩ := H
      refine vx_iaload30 (z := L) (q := 289) (by decide +kernel) hT32.2.1 hT32.2.2.1 (vx_ix k33 hL) ?_
      refine vx_callI (i := .invokevirtual 69) (how := 3) (cm := 64) (np := 2) (q := 292) (args := [.ref 625, .int (vx_i (vx_J h32 0 (v4 + 1).toNat))]) (rest := [.int (vx_i r32)]) (by decide +kernel) rfl rfl rfl (vx_w2 (w := 2) (ml := 2) rfl (by decide +kernel)) (vx_rcv (kd := 9) (vx_Tk hT32.1 (by decide +kernel)) (by decide +kernel)) H (fun r34 h34 hr34 hs34 H => ?_)
      have hT34 := vx_TLsh hT32 hs34
      replace H := H hT34
      refine vx_icmp_eq (off := 369) (q := 295) (t := 661) (by decide +kernel) hr32 hr34 (fun c35 => ?_) (fun c35 => ?_)
      · replace H := H.1 c35
        refine vx_iinc (n := 4) (m := 4) (x := v4) (q := 664) (lv' := [some (.ref 0), some (.ref 1), some (.ref 625), some (.ref 672), some (.int (vx_i (v4 + 4))), v5, v6, v7]) (by decide +kernel) rfl rfl ?_
        refine vx_goto (off := (-641)) (q := 667) (t := 23) (by decide +kernel) ?_
        exact H
      · replace H := H.2 c35
        refine vx_iconst (n := 0) (q := 296) (by decide +kernel) ?_
        refine vx_retZQ (q := 297) (by decide +kernel) (Or.inl rfl) ?_
        exact H
    · replace H := H.2.2.2.2.1 c5
      refine vx_aload_n (n := 1) (q := 298) (by decide +kernel) rfl ?_
      refine vx_aload_n (n := 3) (q := 299) (by decide +kernel) rfl ?_
      refine vx_callI (i := .invokestatic 70) (how := 4) (cm := 211) (np := 2) (q := 302) (args := [.ref 1, .ref 672]) (rest := []) (by decide +kernel) rfl rfl rfl (vx_w2 (w := 2) (ml := 3) rfl (by decide +kernel)) rfl H (fun r36 h36 hr36 hs36 H => ?_)
      have hT36 := vx_TLsh hT hs36
      replace H := H hT36
      refine vx_istore (n := 5) (q := 304) (lv' := [some (.ref 0), some (.ref 1), some (.ref 625), some (.ref 672), some (.int (vx_i v4)), some (.int (vx_i r36)), v6, v7]) (by decide +kernel) rfl ?_
      refine vx_aload_n (n := 2) (q := 305) (by decide +kernel) rfl ?_
      refine vx_callI (i := .invokevirtual 72) (how := 3) (cm := 91) (np := 1) (q := 308) (args := [.ref 625]) (rest := []) (by decide +kernel) rfl rfl rfl (vx_w2 (w := 1) (ml := 3) rfl (by decide +kernel)) (vx_rcv (kd := 9) (vx_Tk hT36.1 (by decide +kernel)) (by decide +kernel)) H (fun r37 h37 hr37 hs37 H => ?_)
      have hT37 := vx_TLsh hT36 hs37
      replace H := H hT37
      refine vx_istore (n := 6) (q := 310) (lv' := [some (.ref 0), some (.ref 1), some (.ref 625), some (.ref 672), some (.int (vx_i v4)), some (.int (vx_i r36)), some (.int (vx_i r37)), v7]) (by decide +kernel) rfl ?_
      refine vx_aload_n (n := 2) (q := 311) (by decide +kernel) rfl ?_
      refine vx_callI (i := .invokevirtual 58) (how := 3) (cm := 19) (np := 1) (q := 314) (args := [.ref 625]) (rest := []) (by decide +kernel) rfl rfl rfl (vx_w2 (w := 1) (ml := 1) rfl (by decide +kernel)) (vx_rcv (kd := 9) (vx_Tk hT37.1 (by decide +kernel)) (by decide +kernel)) H (fun r38 h38 hr38 hs38 H => ?_)
      have hT38 := vx_TLsh hT37 hs38
      replace H := H hT38
      refine vx_iload (n := 5) (q := 316) (by decide +kernel) rfl ?_
      refine vx_icmp_eq (off := 5) (q := 319) (t := 321) (by decide +kernel) hr38 hr36 (fun c39 => ?_) (fun c39 => ?_)
      · replace H := H.1 c39
        refine vx_iload (n := 5) (q := 323) (by decide +kernel) rfl ?_
        refine vx_if0_ne (off := 15) (q := 326) (t := 338) (by decide +kernel) hr36 (fun c40 => ?_) (fun c40 => ?_)
        · replace H := H.1 c40
          refine vx_goto (off := 323) (q := 341) (t := 661) (by decide +kernel) ?_
          refine vx_iinc (n := 4) (m := 4) (x := v4) (q := 664) (lv' := [some (.ref 0), some (.ref 1), some (.ref 625), some (.ref 672), some (.int (vx_i (v4 + 4))), some (.int (vx_i r36)), some (.int (vx_i r37)), v7]) (by decide +kernel) rfl rfl ?_
          refine vx_goto (off := (-641)) (q := 667) (t := 23) (by decide +kernel) ?_
          exact H
        · replace H := H.2 c40
          refine vx_aload_n (n := 3) (q := 327) (by decide +kernel) rfl ?_
          refine vx_iconst (n := 0) (q := 328) (by decide +kernel) ?_
          refine vx_laload (z := 1) (q := 329) (by decide +kernel) (vx_Tk hT38.1 (by decide +kernel)) (vx_Tz hT38.1 (by decide +kernel)) (by decide) ?_
          refine vx_iload (n := 6) (q := 331) (by decide +kernel) rfl ?_
          refine vx_i2l (q := 332) (by decide +kernel) hr37 ?_
          refine vx_lc_eq (off := 5) (p := 333) (q := 336) (t := 338) (by decide +kernel) (vx_rL_K h38 672 0) (vx_IL hr37) (fun c41 => ?_) (fun c41 => ?_)
          · replace H := H.1 c41
            refine vx_goto (off := 323) (q := 341) (t := 661) (by decide +kernel) ?_
            refine vx_iinc (n := 4) (m := 4) (x := v4) (q := 664) (lv' := [some (.ref 0), some (.ref 1), some (.ref 625), some (.ref 672), some (.int (vx_i (v4 + 4))), some (.int (vx_i r36)), some (.int (vx_i r37)), v7]) (by decide +kernel) rfl rfl ?_
            refine vx_goto (off := (-641)) (q := 667) (t := 23) (by decide +kernel) ?_
            exact H
          · replace H := H.2 c41
            refine vx_iconst (n := 0) (q := 337) (by decide +kernel) ?_
            refine vx_retZQ (q := 338) (by decide +kernel) (Or.inl rfl) ?_
            exact H
      · replace H := H.2 c39
        refine vx_iconst (n := 0) (q := 320) (by decide +kernel) ?_
        refine vx_retZQ (q := 321) (by decide +kernel) (Or.inl rfl) ?_
        exact H
    · replace H := H.2.2.2.2.2.1 c5
      refine vx_aload_n (n := 1) (q := 342) (by decide +kernel) rfl ?_
      refine vx_aload_n (n := 3) (q := 343) (by decide +kernel) rfl ?_
      refine vx_callI (i := .invokestatic 73) (how := 4) (cm := 212) (np := 2) (q := 346) (args := [.ref 1, .ref 672]) (rest := []) (by decide +kernel) rfl rfl rfl (vx_w2 (w := 2) (ml := 3) rfl (by decide +kernel)) rfl H (fun r42 h42 hr42 hs42 H => ?_)
      have hT42 := vx_TLsh hT hs42
      replace H := H hT42
      refine vx_istore (n := 5) (q := 348) (lv' := [some (.ref 0), some (.ref 1), some (.ref 625), some (.ref 672), some (.int (vx_i v4)), some (.int (vx_i r42)), v6, v7]) (by decide +kernel) rfl ?_
      refine vx_aload_n (n := 2) (q := 349) (by decide +kernel) rfl ?_
      refine vx_callI (i := .invokevirtual 75) (how := 3) (cm := 94) (np := 1) (q := 352) (args := [.ref 625]) (rest := []) (by decide +kernel) rfl rfl rfl (vx_w2 (w := 1) (ml := 4) rfl (by decide +kernel)) (vx_rcv (kd := 9) (vx_Tk hT42.1 (by decide +kernel)) (by decide +kernel)) H (fun r43 h43 hr43 hs43 H => ?_)
      have hT43 := vx_TLsh hT42 hs43
      replace H := H hT43
      refine vx_istore (n := 6) (q := 354) (lv' := [some (.ref 0), some (.ref 1), some (.ref 625), some (.ref 672), some (.int (vx_i v4)), some (.int (vx_i r42)), some (.int (vx_i r43)), v7]) (by decide +kernel) rfl ?_
      refine vx_aload_n (n := 2) (q := 355) (by decide +kernel) rfl ?_
      refine vx_callI (i := .invokevirtual 58) (how := 3) (cm := 19) (np := 1) (q := 358) (args := [.ref 625]) (rest := []) (by decide +kernel) rfl rfl rfl (vx_w2 (w := 1) (ml := 1) rfl (by decide +kernel)) (vx_rcv (kd := 9) (vx_Tk hT43.1 (by decide +kernel)) (by decide +kernel)) H (fun r44 h44 hr44 hs44 H => ?_)
      have hT44 := vx_TLsh hT43 hs44
      replace H := H hT44
      refine vx_iload (n := 5) (q := 360) (by decide +kernel) rfl ?_
      refine vx_icmp_eq (off := 5) (q := 363) (t := 365) (by decide +kernel) hr44 hr42 (fun c45 => ?_) (fun c45 => ?_)
      · replace H := H.1 c45
        refine vx_iload (n := 5) (q := 367) (by decide +kernel) rfl ?_
        refine vx_if0_ne (off := 15) (q := 370) (t := 382) (by decide +kernel) hr42 (fun c46 => ?_) (fun c46 => ?_)
        · replace H := H.1 c46
          refine vx_goto (off := 279) (q := 385) (t := 661) (by decide +kernel) ?_
          refine vx_iinc (n := 4) (m := 4) (x := v4) (q := 664) (lv' := [some (.ref 0), some (.ref 1), some (.ref 625), some (.ref 672), some (.int (vx_i (v4 + 4))), some (.int (vx_i r42)), some (.int (vx_i r43)), v7]) (by decide +kernel) rfl rfl ?_
          refine vx_goto (off := (-641)) (q := 667) (t := 23) (by decide +kernel) ?_
          exact H
        · replace H := H.2 c46
          refine vx_aload_n (n := 3) (q := 371) (by decide +kernel) rfl ?_
          refine vx_iconst (n := 0) (q := 372) (by decide +kernel) ?_
          refine vx_laload (z := 1) (q := 373) (by decide +kernel) (vx_Tk hT44.1 (by decide +kernel)) (vx_Tz hT44.1 (by decide +kernel)) (by decide) ?_
          refine vx_iload (n := 6) (q := 375) (by decide +kernel) rfl ?_
          refine vx_i2l (q := 376) (by decide +kernel) hr43 ?_
          refine vx_lc_eq (off := 5) (p := 377) (q := 380) (t := 382) (by decide +kernel) (vx_rL_K h44 672 0) (vx_IL hr43) (fun c47 => ?_) (fun c47 => ?_)
          · replace H := H.1 c47
            refine vx_goto (off := 279) (q := 385) (t := 661) (by decide +kernel) ?_
            refine vx_iinc (n := 4) (m := 4) (x := v4) (q := 664) (lv' := [some (.ref 0), some (.ref 1), some (.ref 625), some (.ref 672), some (.int (vx_i (v4 + 4))), some (.int (vx_i r42)), some (.int (vx_i r43)), v7]) (by decide +kernel) rfl rfl ?_
            refine vx_goto (off := (-641)) (q := 667) (t := 23) (by decide +kernel) ?_
            exact H
          · replace H := H.2 c47
            refine vx_iconst (n := 0) (q := 381) (by decide +kernel) ?_
            refine vx_retZQ (q := 382) (by decide +kernel) (Or.inl rfl) ?_
            exact H
      · replace H := H.2 c45
        refine vx_iconst (n := 0) (q := 364) (by decide +kernel) ?_
        refine vx_retZQ (q := 365) (by decide +kernel) (Or.inl rfl) ?_
        exact H
    · replace H := H.2.2.2.2.2.2.1 c5
      refine vx_aload_n (n := 1) (q := 386) (by decide +kernel) rfl ?_
      refine vx_aload_n (n := 0) (q := 387) (by decide +kernel) rfl ?_
      refine vx_iload (n := 4) (q := 389) (by decide +kernel) rfl ?_
      refine vx_iconst (n := 1) (q := 390) (by decide +kernel) ?_
      refine vx_iadd (q := 391) (by decide +kernel) ?_
      obtain ⟨k48, H⟩ := H
      refine vx_iaload30 (z := L) (q := 392) (by decide +kernel) hT.2.1 hT.2.2.1 (vx_ix k48 hL) ?_
      refine vx_aload_n (n := 0) (q := 393) (by decide +kernel) rfl ?_
      refine vx_iload (n := 4) (q := 395) (by decide +kernel) rfl ?_
      refine vx_iconst (n := 2) (q := 396) (by decide +kernel) ?_
      refine vx_iadd (q := 397) (by decide +kernel) ?_
      obtain ⟨k49, H⟩ := H
      refine vx_iaload30 (z := L) (q := 398) (by decide +kernel) hT.2.1 hT.2.2.1 (vx_ix k49 hL) ?_
      refine vx_aload_n (n := 3) (q := 399) (by decide +kernel) rfl ?_
      refine vx_callI (i := .invokestatic 76) (how := 4) (cm := 213) (np := 4) (q := 402) (args := [.ref 1, .int (vx_i (vx_J h 0 (v4 + 1).toNat)), .int (vx_i (vx_J h 0 (v4 + 2).toNat)), .ref 672]) (rest := []) (by decide +kernel) rfl rfl rfl (vx_w2 (w := 4) (ml := 5) rfl (by decide +kernel)) rfl H (fun r50 h50 hr50 hs50 H => ?_)
      have hT50 := vx_TLsh hT hs50
      replace H := H hT50
      refine vx_istore (n := 5) (q := 404) (lv' := [some (.ref 0), some (.ref 1), some (.ref 625), some (.ref 672), some (.int (vx_i v4)), some (.int (vx_i r50)), v6, v7]) (by decide +kernel) rfl ?_
      refine vx_aload_n (n := 2) (q := 405) (by decide +kernel) rfl ?_
      refine vx_aload_n (n := 0) (q := 406) (by decide +kernel) rfl ?_
      refine vx_iload (n := 4) (q := 408) (by decide +kernel) rfl ?_
      refine vx_iconst (n := 1) (q := 409) (by decide +kernel) ?_
      refine vx_iadd (q := 410) (by decide +kernel) ?_
      obtain ⟨k51, H⟩ := H
      refine vx_iaload30 (z := L) (q := 411) (by decide +kernel) hT50.2.1 hT50.2.2.1 (vx_ix k51 hL) ?_
      refine vx_aload_n (n := 0) (q := 412) (by decide +kernel) rfl ?_
      refine vx_iload (n := 4) (q := 414) (by decide +kernel) rfl ?_
      refine vx_iconst (n := 2) (q := 415) (by decide +kernel) ?_
      refine vx_iadd (q := 416) (by decide +kernel) ?_
      obtain ⟨k52, H⟩ := H
      refine vx_iaload30 (z := L) (q := 417) (by decide +kernel) hT50.2.1 hT50.2.2.1 (vx_ix k52 hL) ?_
      refine vx_callL (i := .invokevirtual 79) (how := 3) (cm := 95) (np := 3) (q := 420) (args := [.ref 625, .int (vx_i (vx_J h50 0 (v4 + 1).toNat)), .int (vx_i (vx_J h50 0 (v4 + 2).toNat))]) (rest := []) (by decide +kernel) rfl rfl rfl (vx_w2 (w := 3) (ml := 3) rfl (by decide +kernel)) (vx_rcv (kd := 9) (vx_Tk hT50.1 (by decide +kernel)) (by decide +kernel)) H (fun r53 h53 hr53 hs53 H => ?_)
      have hT53 := vx_TLsh hT50 hs53
      replace H := H hT53
      refine vx_lstore (n := 6) (q := 422) (lv' := [some (.ref 0), some (.ref 1), some (.ref 625), some (.ref 672), some (.int (vx_i v4)), some (.int (vx_i r50)), some (.long (vx_l r53)), none]) (by decide +kernel) rfl ?_
      refine vx_aload_n (n := 2) (q := 423) (by decide +kernel) rfl ?_
      refine vx_callI (i := .invokevirtual 58) (how := 3) (cm := 19) (np := 1) (q := 426) (args := [.ref 625]) (rest := []) (by decide +kernel) rfl rfl rfl (vx_w2 (w := 1) (ml := 1) rfl (by decide +kernel)) (vx_rcv (kd := 9) (vx_Tk hT53.1 (by decide +kernel)) (by decide +kernel)) H (fun r54 h54 hr54 hs54 H => ?_)
      have hT54 := vx_TLsh hT53 hs54
      replace H := H hT54
      refine vx_iload (n := 5) (q := 428) (by decide +kernel) rfl ?_
      refine vx_icmp_eq (off := 5) (q := 431) (t := 433) (by decide +kernel) hr54 hr50 (fun c55 => ?_) (fun c55 => ?_)
      · replace H := H.1 c55
        refine vx_iload (n := 5) (q := 435) (by decide +kernel) rfl ?_
        refine vx_if0_ne (off := 14) (q := 438) (t := 449) (by decide +kernel) hr50 (fun c56 => ?_) (fun c56 => ?_)
        · replace H := H.1 c56
          refine vx_goto (off := 212) (q := 452) (t := 661) (by decide +kernel) ?_
          refine vx_iinc (n := 4) (m := 4) (x := v4) (q := 664) (lv' := [some (.ref 0), some (.ref 1), some (.ref 625), some (.ref 672), some (.int (vx_i (v4 + 4))), some (.int (vx_i r50)), some (.long (vx_l r53)), none]) (by decide +kernel) rfl rfl ?_
          refine vx_goto (off := (-641)) (q := 667) (t := 23) (by decide +kernel) ?_
          exact H
        · replace H := H.2 c56
          refine vx_aload_n (n := 3) (q := 439) (by decide +kernel) rfl ?_
          refine vx_iconst (n := 0) (q := 440) (by decide +kernel) ?_
          refine vx_laload (z := 1) (q := 441) (by decide +kernel) (vx_Tk hT54.1 (by decide +kernel)) (vx_Tz hT54.1 (by decide +kernel)) (by decide) ?_
          refine vx_lload (n := 6) (q := 443) (by decide +kernel) rfl ?_
          refine vx_lc_eq (off := 5) (p := 444) (q := 447) (t := 449) (by decide +kernel) (vx_rL_K h54 672 0) hr53 (fun c57 => ?_) (fun c57 => ?_)
          · replace H := H.1 c57
            refine vx_goto (off := 212) (q := 452) (t := 661) (by decide +kernel) ?_
            refine vx_iinc (n := 4) (m := 4) (x := v4) (q := 664) (lv' := [some (.ref 0), some (.ref 1), some (.ref 625), some (.ref 672), some (.int (vx_i (v4 + 4))), some (.int (vx_i r50)), some (.long (vx_l r53)), none]) (by decide +kernel) rfl rfl ?_
            refine vx_goto (off := (-641)) (q := 667) (t := 23) (by decide +kernel) ?_
            exact H
          · replace H := H.2 c57
            refine vx_iconst (n := 0) (q := 448) (by decide +kernel) ?_
            refine vx_retZQ (q := 449) (by decide +kernel) (Or.inl rfl) ?_
            exact H
      · replace H := H.2 c55
        refine vx_iconst (n := 0) (q := 432) (by decide +kernel) ?_
        refine vx_retZQ (q := 433) (by decide +kernel) (Or.inl rfl) ?_
        exact H
    · replace H := H.2.2.2.2.2.2.2.1 c5
      refine vx_aload_n (n := 1) (q := 453) (by decide +kernel) rfl ?_
      refine vx_aload_n (n := 0) (q := 454) (by decide +kernel) rfl ?_
      refine vx_iload (n := 4) (q := 456) (by decide +kernel) rfl ?_
      refine vx_iconst (n := 1) (q := 457) (by decide +kernel) ?_
      refine vx_iadd (q := 458) (by decide +kernel) ?_
      obtain ⟨k58, H⟩ := H
      refine vx_iaload30 (z := L) (q := 459) (by decide +kernel) hT.2.1 hT.2.2.1 (vx_ix k58 hL) ?_
      refine vx_callI (i := .invokevirtual 80) (how := 3) (cm := 8) (np := 2) (q := 462) (args := [.ref 1, .int (vx_i (vx_J h 0 (v4 + 1).toNat))]) (rest := []) (by decide +kernel) rfl rfl rfl (vx_w2 (w := 2) (ml := 2) rfl (by decide +kernel)) (vx_rcv (kd := 1) (vx_Tk hT.1 (by decide +kernel)) (by decide +kernel)) H (fun r59 h59 hr59 hs59 H => ?_)
      have hT59 := vx_TLsh hT hs59
      replace H := H hT59
      refine vx_aload_n (n := 2) (q := 463) (by decide +kernel) rfl ?_
      refine vx_aload_n (n := 0) (q := 464) (by decide +kernel) rfl ?_
      refine vx_iload (n := 4) (q := 466) (by decide +kernel) rfl ?_
      refine vx_iconst (n := 1) (q := 467) (by decide +kernel) ?_
      refine vx_iadd (q := 468) (by decide +kernel) ?_
      obtain ⟨k60, H⟩ := H
      refine vx_iaload30 (z := L) (q := 469) (by decide +kernel) hT59.2.1 hT59.2.2.1 (vx_ix k60 hL) ?_
      refine vx_callI (i := .invokevirtual 83) (how := 3) (cm := 97) (np := 2) (q := 472) (args := [.ref 625, .int (vx_i (vx_J h59 0 (v4 + 1).toNat))]) (rest := [.int (vx_i r59)]) (by decide +kernel) rfl rfl rfl (vx_w2 (w := 2) (ml := 2) rfl (by decide +kernel)) (vx_rcv (kd := 9) (vx_Tk hT59.1 (by decide +kernel)) (by decide +kernel)) H (fun r61 h61 hr61 hs61 H => ?_)
      have hT61 := vx_TLsh hT59 hs61
      replace H := H hT61
      refine vx_icmp_eq (off := 189) (q := 475) (t := 661) (by decide +kernel) hr59 hr61 (fun c62 => ?_) (fun c62 => ?_)
      · replace H := H.1 c62
        refine vx_iinc (n := 4) (m := 4) (x := v4) (q := 664) (lv' := [some (.ref 0), some (.ref 1), some (.ref 625), some (.ref 672), some (.int (vx_i (v4 + 4))), v5, v6, v7]) (by decide +kernel) rfl rfl ?_
        refine vx_goto (off := (-641)) (q := 667) (t := 23) (by decide +kernel) ?_
        exact H
      · replace H := H.2 c62
        refine vx_iconst (n := 0) (q := 476) (by decide +kernel) ?_
        refine vx_retZQ (q := 477) (by decide +kernel) (Or.inl rfl) ?_
        exact H
    · replace H := H.2.2.2.2.2.2.2.2.1 c5
      refine vx_aload_n (n := 1) (q := 478) (by decide +kernel) rfl ?_
      refine vx_aload_n (n := 0) (q := 479) (by decide +kernel) rfl ?_
      refine vx_iload (n := 4) (q := 481) (by decide +kernel) rfl ?_
      refine vx_iconst (n := 1) (q := 482) (by decide +kernel) ?_
      refine vx_iadd (q := 483) (by decide +kernel) ?_
      obtain ⟨k63, H⟩ := H
      refine vx_iaload30 (z := L) (q := 484) (by decide +kernel) hT.2.1 hT.2.2.1 (vx_ix k63 hL) ?_
      refine vx_aload_n (n := 0) (q := 485) (by decide +kernel) rfl ?_
      refine vx_iload (n := 4) (q := 487) (by decide +kernel) rfl ?_
      refine vx_iconst (n := 2) (q := 488) (by decide +kernel) ?_
      refine vx_iadd (q := 489) (by decide +kernel) ?_
      obtain ⟨k64, H⟩ := H
      refine vx_iaload30 (z := L) (q := 490) (by decide +kernel) hT.2.1 hT.2.2.1 (vx_ix k64 hL) ?_
      refine vx_callI (i := .invokevirtual 84) (how := 3) (cm := 9) (np := 3) (q := 493) (args := [.ref 1, .int (vx_i (vx_J h 0 (v4 + 1).toNat)), .int (vx_i (vx_J h 0 (v4 + 2).toNat))]) (rest := []) (by decide +kernel) rfl rfl rfl (vx_w2 (w := 3) (ml := 3) rfl (by decide +kernel)) (vx_rcv (kd := 1) (vx_Tk hT.1 (by decide +kernel)) (by decide +kernel)) H (fun r65 h65 hr65 hs65 H => ?_)
      have hT65 := vx_TLsh hT hs65
      replace H := H hT65
      refine vx_aload_n (n := 2) (q := 494) (by decide +kernel) rfl ?_
      refine vx_aload_n (n := 0) (q := 495) (by decide +kernel) rfl ?_
      refine vx_iload (n := 4) (q := 497) (by decide +kernel) rfl ?_
      refine vx_iconst (n := 1) (q := 498) (by decide +kernel) ?_
      refine vx_iadd (q := 499) (by decide +kernel) ?_
      obtain ⟨k66, H⟩ := H
      refine vx_iaload30 (z := L) (q := 500) (by decide +kernel) hT65.2.1 hT65.2.2.1 (vx_ix k66 hL) ?_
      refine vx_aload_n (n := 0) (q := 501) (by decide +kernel) rfl ?_
      refine vx_iload (n := 4) (q := 503) (by decide +kernel) rfl ?_
      refine vx_iconst (n := 2) (q := 504) (by decide +kernel) ?_
      refine vx_iadd (q := 505) (by decide +kernel) ?_
      obtain ⟨k67, H⟩ := H
      refine vx_iaload30 (z := L) (q := 506) (by decide +kernel) hT65.2.1 hT65.2.2.1 (vx_ix k67 hL) ?_
      refine vx_callI (i := .invokevirtual 87) (how := 3) (cm := 99) (np := 3) (q := 509) (args := [.ref 625, .int (vx_i (vx_J h65 0 (v4 + 1).toNat)), .int (vx_i (vx_J h65 0 (v4 + 2).toNat))]) (rest := [.int (vx_i r65)]) (by decide +kernel) rfl rfl rfl (vx_w2 (w := 3) (ml := 8) rfl (by decide +kernel)) (vx_rcv (kd := 9) (vx_Tk hT65.1 (by decide +kernel)) (by decide +kernel)) H (fun r68 h68 hr68 hs68 H => ?_)
      have hT68 := vx_TLsh hT65 hs68
      replace H := H hT68
      refine vx_icmp_eq (off := 152) (q := 512) (t := 661) (by decide +kernel) hr65 hr68 (fun c69 => ?_) (fun c69 => ?_)
      · replace H := H.1 c69
        refine vx_iinc (n := 4) (m := 4) (x := v4) (q := 664) (lv' := [some (.ref 0), some (.ref 1), some (.ref 625), some (.ref 672), some (.int (vx_i (v4 + 4))), v5, v6, v7]) (by decide +kernel) rfl rfl ?_
        refine vx_goto (off := (-641)) (q := 667) (t := 23) (by decide +kernel) ?_
        exact H
      · replace H := H.2 c69
        refine vx_iconst (n := 0) (q := 513) (by decide +kernel) ?_
        refine vx_retZQ (q := 514) (by decide +kernel) (Or.inl rfl) ?_
        exact H
    · replace H := H.2.2.2.2.2.2.2.2.2.1 c5
      refine vx_aload_n (n := 1) (q := 515) (by decide +kernel) rfl ?_
      refine vx_aload_n (n := 0) (q := 516) (by decide +kernel) rfl ?_
      refine vx_iload (n := 4) (q := 518) (by decide +kernel) rfl ?_
      refine vx_iconst (n := 1) (q := 519) (by decide +kernel) ?_
      refine vx_iadd (q := 520) (by decide +kernel) ?_
      obtain ⟨k70, H⟩ := H
      refine vx_iaload30 (z := L) (q := 521) (by decide +kernel) hT.2.1 hT.2.2.1 (vx_ix k70 hL) ?_
      refine vx_aload_n (n := 0) (q := 522) (by decide +kernel) rfl ?_
      refine vx_iload (n := 4) (q := 524) (by decide +kernel) rfl ?_
      refine vx_iconst (n := 2) (q := 525) (by decide +kernel) ?_
      refine vx_iadd (q := 526) (by decide +kernel) ?_
      obtain ⟨k71, H⟩ := H
      refine vx_iaload30 (z := L) (q := 527) (by decide +kernel) hT.2.1 hT.2.2.1 (vx_ix k71 hL) ?_
      refine vx_aload_n (n := 0) (q := 528) (by decide +kernel) rfl ?_
      refine vx_iload (n := 4) (q := 530) (by decide +kernel) rfl ?_
      refine vx_iconst (n := 3) (q := 531) (by decide +kernel) ?_
      refine vx_iadd (q := 532) (by decide +kernel) ?_
      obtain ⟨k72, H⟩ := H
      refine vx_iaload30 (z := L) (q := 533) (by decide +kernel) hT.2.1 hT.2.2.1 (vx_ix k72 hL) ?_
      refine vx_aload_n (n := 3) (q := 534) (by decide +kernel) rfl ?_
      refine vx_callI (i := .invokestatic 88) (how := 4) (cm := 214) (np := 5) (q := 537) (args := [.ref 1, .int (vx_i (vx_J h 0 (v4 + 1).toNat)), .int (vx_i (vx_J h 0 (v4 + 2).toNat)), .int (vx_i (vx_J h 0 (v4 + 3).toNat)), .ref 672]) (rest := []) (by decide +kernel) rfl rfl rfl (vx_w2 (w := 5) (ml := 6) rfl (by decide +kernel)) rfl H (fun r73 h73 hr73 hs73 H => ?_)
      have hT73 := vx_TLsh hT hs73
      replace H := H hT73
      refine vx_istore (n := 5) (q := 539) (lv' := [some (.ref 0), some (.ref 1), some (.ref 625), some (.ref 672), some (.int (vx_i v4)), some (.int (vx_i r73)), v6, v7]) (by decide +kernel) rfl ?_
      refine vx_aload_n (n := 2) (q := 540) (by decide +kernel) rfl ?_
      refine vx_aload_n (n := 0) (q := 541) (by decide +kernel) rfl ?_
      refine vx_iload (n := 4) (q := 543) (by decide +kernel) rfl ?_
      refine vx_iconst (n := 1) (q := 544) (by decide +kernel) ?_
      refine vx_iadd (q := 545) (by decide +kernel) ?_
      obtain ⟨k74, H⟩ := H
      refine vx_iaload30 (z := L) (q := 546) (by decide +kernel) hT73.2.1 hT73.2.2.1 (vx_ix k74 hL) ?_
      refine vx_aload_n (n := 0) (q := 547) (by decide +kernel) rfl ?_
      refine vx_iload (n := 4) (q := 549) (by decide +kernel) rfl ?_
      refine vx_iconst (n := 2) (q := 550) (by decide +kernel) ?_
      refine vx_iadd (q := 551) (by decide +kernel) ?_
      obtain ⟨k75, H⟩ := H
      refine vx_iaload30 (z := L) (q := 552) (by decide +kernel) hT73.2.1 hT73.2.2.1 (vx_ix k75 hL) ?_
      refine vx_aload_n (n := 0) (q := 553) (by decide +kernel) rfl ?_
      refine vx_iload (n := 4) (q := 555) (by decide +kernel) rfl ?_
      refine vx_iconst (n := 3) (q := 556) (by decide +kernel) ?_
      refine vx_iadd (q := 557) (by decide +kernel) ?_
      obtain ⟨k76, H⟩ := H
      refine vx_iaload30 (z := L) (q := 558) (by decide +kernel) hT73.2.1 hT73.2.2.1 (vx_ix k76 hL) ?_
      refine vx_callL (i := .invokevirtual 91) (how := 3) (cm := 102) (np := 4) (q := 561) (args := [.ref 625, .int (vx_i (vx_J h73 0 (v4 + 1).toNat)), .int (vx_i (vx_J h73 0 (v4 + 2).toNat)), .int (vx_i (vx_J h73 0 (v4 + 3).toNat))]) (rest := []) (by decide +kernel) rfl rfl rfl (vx_w2 (w := 4) (ml := 5) rfl (by decide +kernel)) (vx_rcv (kd := 9) (vx_Tk hT73.1 (by decide +kernel)) (by decide +kernel)) H (fun r77 h77 hr77 hs77 H => ?_)
      have hT77 := vx_TLsh hT73 hs77
      replace H := H hT77
      refine vx_lstore (n := 6) (q := 563) (lv' := [some (.ref 0), some (.ref 1), some (.ref 625), some (.ref 672), some (.int (vx_i v4)), some (.int (vx_i r73)), some (.long (vx_l r77)), none]) (by decide +kernel) rfl ?_
      refine vx_aload_n (n := 2) (q := 564) (by decide +kernel) rfl ?_
      refine vx_callI (i := .invokevirtual 58) (how := 3) (cm := 19) (np := 1) (q := 567) (args := [.ref 625]) (rest := []) (by decide +kernel) rfl rfl rfl (vx_w2 (w := 1) (ml := 1) rfl (by decide +kernel)) (vx_rcv (kd := 9) (vx_Tk hT77.1 (by decide +kernel)) (by decide +kernel)) H (fun r78 h78 hr78 hs78 H => ?_)
      have hT78 := vx_TLsh hT77 hs78
      replace H := H hT78
      refine vx_iload (n := 5) (q := 569) (by decide +kernel) rfl ?_
      refine vx_icmp_eq (off := 5) (q := 572) (t := 574) (by decide +kernel) hr78 hr73 (fun c79 => ?_) (fun c79 => ?_)
      · replace H := H.1 c79
        refine vx_iload (n := 5) (q := 576) (by decide +kernel) rfl ?_
        refine vx_if0_ne (off := 14) (q := 579) (t := 590) (by decide +kernel) hr73 (fun c80 => ?_) (fun c80 => ?_)
        · replace H := H.1 c80
          refine vx_goto (off := 71) (q := 593) (t := 661) (by decide +kernel) ?_
          refine vx_iinc (n := 4) (m := 4) (x := v4) (q := 664) (lv' := [some (.ref 0), some (.ref 1), some (.ref 625), some (.ref 672), some (.int (vx_i (v4 + 4))), some (.int (vx_i r73)), some (.long (vx_l r77)), none]) (by decide +kernel) rfl rfl ?_
          refine vx_goto (off := (-641)) (q := 667) (t := 23) (by decide +kernel) ?_
          exact H
        · replace H := H.2 c80
          refine vx_aload_n (n := 3) (q := 580) (by decide +kernel) rfl ?_
          refine vx_iconst (n := 0) (q := 581) (by decide +kernel) ?_
          refine vx_laload (z := 1) (q := 582) (by decide +kernel) (vx_Tk hT78.1 (by decide +kernel)) (vx_Tz hT78.1 (by decide +kernel)) (by decide) ?_
          refine vx_lload (n := 6) (q := 584) (by decide +kernel) rfl ?_
          refine vx_lc_eq (off := 5) (p := 585) (q := 588) (t := 590) (by decide +kernel) (vx_rL_K h78 672 0) hr77 (fun c81 => ?_) (fun c81 => ?_)
          · replace H := H.1 c81
            refine vx_goto (off := 71) (q := 593) (t := 661) (by decide +kernel) ?_
            refine vx_iinc (n := 4) (m := 4) (x := v4) (q := 664) (lv' := [some (.ref 0), some (.ref 1), some (.ref 625), some (.ref 672), some (.int (vx_i (v4 + 4))), some (.int (vx_i r73)), some (.long (vx_l r77)), none]) (by decide +kernel) rfl rfl ?_
            refine vx_goto (off := (-641)) (q := 667) (t := 23) (by decide +kernel) ?_
            exact H
          · replace H := H.2 c81
            refine vx_iconst (n := 0) (q := 589) (by decide +kernel) ?_
            refine vx_retZQ (q := 590) (by decide +kernel) (Or.inl rfl) ?_
            exact H
      · replace H := H.2 c79
        refine vx_iconst (n := 0) (q := 573) (by decide +kernel) ?_
        refine vx_retZQ (q := 574) (by decide +kernel) (Or.inl rfl) ?_
        exact H
    · replace H := H.2.2.2.2.2.2.2.2.2.2.1 c5
      refine vx_aload_n (n := 1) (q := 594) (by decide +kernel) rfl ?_
      refine vx_aload_n (n := 0) (q := 595) (by decide +kernel) rfl ?_
      refine vx_iload (n := 4) (q := 597) (by decide +kernel) rfl ?_
      refine vx_iconst (n := 1) (q := 598) (by decide +kernel) ?_
      refine vx_iadd (q := 599) (by decide +kernel) ?_
      obtain ⟨k82, H⟩ := H
      refine vx_iaload30 (z := L) (q := 600) (by decide +kernel) hT.2.1 hT.2.2.1 (vx_ix k82 hL) ?_
      refine vx_aload_n (n := 0) (q := 601) (by decide +kernel) rfl ?_
      refine vx_iload (n := 4) (q := 603) (by decide +kernel) rfl ?_
      refine vx_iconst (n := 2) (q := 604) (by decide +kernel) ?_
      refine vx_iadd (q := 605) (by decide +kernel) ?_
      obtain ⟨k83, H⟩ := H
      refine vx_iaload30 (z := L) (q := 606) (by decide +kernel) hT.2.1 hT.2.2.1 (vx_ix k83 hL) ?_
      refine vx_aload_n (n := 3) (q := 607) (by decide +kernel) rfl ?_
      refine vx_callI (i := .invokestatic 92) (how := 4) (cm := 215) (np := 4) (q := 610) (args := [.ref 1, .int (vx_i (vx_J h 0 (v4 + 1).toNat)), .int (vx_i (vx_J h 0 (v4 + 2).toNat)), .ref 672]) (rest := []) (by decide +kernel) rfl rfl rfl (vx_w2 (w := 4) (ml := 5) rfl (by decide +kernel)) rfl H (fun r84 h84 hr84 hs84 H => ?_)
      have hT84 := vx_TLsh hT hs84
      replace H := H hT84
      refine vx_istore (n := 5) (q := 612) (lv' := [some (.ref 0), some (.ref 1), some (.ref 625), some (.ref 672), some (.int (vx_i v4)), some (.int (vx_i r84)), v6, v7]) (by decide +kernel) rfl ?_
      refine vx_aload_n (n := 2) (q := 613) (by decide +kernel) rfl ?_
      refine vx_aload_n (n := 0) (q := 614) (by decide +kernel) rfl ?_
      refine vx_iload (n := 4) (q := 616) (by decide +kernel) rfl ?_
      refine vx_iconst (n := 1) (q := 617) (by decide +kernel) ?_
      refine vx_iadd (q := 618) (by decide +kernel) ?_
      obtain ⟨k85, H⟩ := H
      refine vx_iaload30 (z := L) (q := 619) (by decide +kernel) hT84.2.1 hT84.2.2.1 (vx_ix k85 hL) ?_
      refine vx_aload_n (n := 0) (q := 620) (by decide +kernel) rfl ?_
      refine vx_iload (n := 4) (q := 622) (by decide +kernel) rfl ?_
      refine vx_iconst (n := 2) (q := 623) (by decide +kernel) ?_
      refine vx_iadd (q := 624) (by decide +kernel) ?_
      obtain ⟨k86, H⟩ := H
      refine vx_iaload30 (z := L) (q := 625) (by decide +kernel) hT84.2.1 hT84.2.2.1 (vx_ix k86 hL) ?_
      refine vx_callI (i := .invokevirtual 94) (how := 3) (cm := 103) (np := 3) (q := 628) (args := [.ref 625, .int (vx_i (vx_J h84 0 (v4 + 1).toNat)), .int (vx_i (vx_J h84 0 (v4 + 2).toNat))]) (rest := []) (by decide +kernel) rfl rfl rfl (vx_w2 (w := 3) (ml := 4) rfl (by decide +kernel)) (vx_rcv (kd := 9) (vx_Tk hT84.1 (by decide +kernel)) (by decide +kernel)) H (fun r87 h87 hr87 hs87 H => ?_)
      have hT87 := vx_TLsh hT84 hs87
      replace H := H hT87
      refine vx_istore (n := 6) (q := 630) (lv' := [some (.ref 0), some (.ref 1), some (.ref 625), some (.ref 672), some (.int (vx_i v4)), some (.int (vx_i r84)), some (.int (vx_i r87)), v7]) (by decide +kernel) rfl ?_
      refine vx_aload_n (n := 2) (q := 631) (by decide +kernel) rfl ?_
      refine vx_callI (i := .invokevirtual 58) (how := 3) (cm := 19) (np := 1) (q := 634) (args := [.ref 625]) (rest := []) (by decide +kernel) rfl rfl rfl (vx_w2 (w := 1) (ml := 1) rfl (by decide +kernel)) (vx_rcv (kd := 9) (vx_Tk hT87.1 (by decide +kernel)) (by decide +kernel)) H (fun r88 h88 hr88 hs88 H => ?_)
      have hT88 := vx_TLsh hT87 hs88
      replace H := H hT88
      refine vx_iload (n := 5) (q := 636) (by decide +kernel) rfl ?_
      refine vx_icmp_eq (off := 5) (q := 639) (t := 641) (by decide +kernel) hr88 hr84 (fun c89 => ?_) (fun c89 => ?_)
      · replace H := H.1 c89
        refine vx_iload (n := 5) (q := 643) (by decide +kernel) rfl ?_
        refine vx_if0_ne (off := 15) (q := 646) (t := 658) (by decide +kernel) hr84 (fun c90 => ?_) (fun c90 => ?_)
        · replace H := H.1 c90
          refine vx_goto (off := 3) (q := 661) (t := 661) (by decide +kernel) ?_
          refine vx_iinc (n := 4) (m := 4) (x := v4) (q := 664) (lv' := [some (.ref 0), some (.ref 1), some (.ref 625), some (.ref 672), some (.int (vx_i (v4 + 4))), some (.int (vx_i r84)), some (.int (vx_i r87)), v7]) (by decide +kernel) rfl rfl ?_
          refine vx_goto (off := (-641)) (q := 667) (t := 23) (by decide +kernel) ?_
          exact H
        · replace H := H.2 c90
          refine vx_aload_n (n := 3) (q := 647) (by decide +kernel) rfl ?_
          refine vx_iconst (n := 0) (q := 648) (by decide +kernel) ?_
          refine vx_laload (z := 1) (q := 649) (by decide +kernel) (vx_Tk hT88.1 (by decide +kernel)) (vx_Tz hT88.1 (by decide +kernel)) (by decide) ?_
          refine vx_iload (n := 6) (q := 651) (by decide +kernel) rfl ?_
          refine vx_i2l (q := 652) (by decide +kernel) hr87 ?_
          refine vx_lc_eq (off := 5) (p := 653) (q := 656) (t := 658) (by decide +kernel) (vx_rL_K h88 672 0) (vx_IL hr87) (fun c91 => ?_) (fun c91 => ?_)
          · replace H := H.1 c91
            refine vx_goto (off := 3) (q := 661) (t := 661) (by decide +kernel) ?_
            refine vx_iinc (n := 4) (m := 4) (x := v4) (q := 664) (lv' := [some (.ref 0), some (.ref 1), some (.ref 625), some (.ref 672), some (.int (vx_i (v4 + 4))), some (.int (vx_i r84)), some (.int (vx_i r87)), v7]) (by decide +kernel) rfl rfl ?_
            refine vx_goto (off := (-641)) (q := 667) (t := 23) (by decide +kernel) ?_
            exact H
          · replace H := H.2 c91
            refine vx_iconst (n := 0) (q := 657) (by decide +kernel) ?_
            refine vx_retZQ (q := 658) (by decide +kernel) (Or.inl rfl) ?_
            exact H
      · replace H := H.2 c89
        refine vx_iconst (n := 0) (q := 640) (by decide +kernel) ?_
        refine vx_retZQ (q := 641) (by decide +kernel) (Or.inl rfl) ?_
        exact H
    · replace H := H.2.2.2.2.2.2.2.2.2.2.2 c5
      refine vx_iinc (n := 4) (m := 4) (x := v4) (q := 664) (lv' := [some (.ref 0), some (.ref 1), some (.ref 625), some (.ref 672), some (.int (vx_i (v4 + 4))), v5, v6, v7]) (by decide +kernel) rfl rfl ?_
      refine vx_goto (off := (-641)) (q := 667) (t := 23) (by decide +kernel) ?_
      exact H
