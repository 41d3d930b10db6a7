/-! Printed by my own program (wip/whole/gen_seg.py): walks of methods 22-26,28,29,31,194-208 -/
-- RuleHouseModel.see(I)I
theorem vg_22 {d : Nat} {h : ve_H} {P : Int → ve_H → Prop} {x1 : Int} (hT : vx_T 625 672 h) (H : (vx_rI x1) ∧ (((vx_J h 625 2) ≤ x1 → P 0 h) ∧ (x1 < (vx_J h 625 2) → (0 ≤ x1 ∧ x1 < 600) ∧ P (vx_J h 626 x1.toNat) h))) : vx_CI d 22 [.ref 625, .int (vx_i x1)] h P := by
  refine vx_enter (ml := 2) (by decide +kernel) ?_
  show vx_W _ _ 0 [some (.ref 625), some (.int (vx_i x1))] [] h _
  refine vx_iload_n (n := 1) (q := 1) (by decide +kernel) rfl ?_
  refine vx_aload_n (n := 0) (q := 2) (by decide +kernel) rfl ?_
  refine vx_getI (idx := 157) (kd := 9) (s := 2) (fin := false) (q := 5) (by decide +kernel) (vx_Tk hT (by decide +kernel)) ?_
  obtain ⟨k1, H⟩ := H
  refine vx_icmp_ge (off := 12) (q := 8) (t := 17) (by decide +kernel) k1 (vx_rI_J h 625 2) (fun c2 => ?_) (fun c2 => ?_)
  · replace H := H.1 c2
    refine vx_iconst (n := 0) (q := 18) (by decide +kernel) ?_
    refine vx_retI (q := 19) (by decide +kernel) (by decide) ?_
    exact H
  · replace H := H.2 c2
    refine vx_aload_n (n := 0) (q := 9) (by decide +kernel) rfl ?_
    refine vx_getR (b := 626) (idx := 7) (kd := 9) (s := 1) (fin := true) (q := 12) (by decide +kernel) (vx_Tk hT (by decide +kernel)) (vx_Tr hT (kd := 9) (by decide +kernel) (by decide +kernel) (by decide +kernel)) ?_
    refine vx_iload_n (n := 1) (q := 13) (by decide +kernel) rfl ?_
    obtain ⟨k3, H⟩ := H
    refine vx_iaload (z := 600) (q := 14) (by decide +kernel) (vx_Tk hT (by decide +kernel)) (vx_Tz hT (by decide +kernel)) (vx_ix k3 (by decide)) ?_
    refine vx_goto (off := 4) (q := 17) (t := 18) (by decide +kernel) ?_
    refine vx_retI (q := 19) (by decide +kernel) (vx_rI_J h 626 x1.toNat) ?_
    exact H
-- RuleHouseModel.isDigit(I)Z
theorem vg_23 {d : Nat} {h : ve_H} {P : Int → ve_H → Prop} {x1 : Int} (hT : vx_T 625 672 h) (H : (vx_rI x1) ∧ ((x1 < 48 → P 0 h) ∧ (48 ≤ x1 → ((57 < x1 → P 0 h) ∧ (x1 ≤ 57 → P 1 h))))) : vx_CI d 23 [.int (vx_i x1)] h P := by
  refine vx_enter (ml := 1) (by decide +kernel) ?_
  show vx_W _ _ 0 [some (.int (vx_i x1))] [] h _
  refine vx_iload_n (n := 0) (q := 1) (by decide +kernel) rfl ?_
  refine vx_bipush (n := 48) (q := 3) (by decide +kernel) ?_
  obtain ⟨k1, H⟩ := H
  refine vx_icmp_lt (off := 13) (q := 6) (t := 16) (by decide +kernel) k1 (by decide) (fun c2 => ?_) (fun c2 => ?_)
  · replace H := H.1 c2
    refine vx_iconst (n := 0) (q := 17) (by decide +kernel) ?_
    refine vx_retZ (q := 18) (by decide +kernel) (Or.inl rfl) ?_
    exact H
  · replace H := H.2 c2
    refine vx_iload_n (n := 0) (q := 7) (by decide +kernel) rfl ?_
    refine vx_bipush (n := 57) (q := 9) (by decide +kernel) ?_
    refine vx_icmp_gt (off := 7) (q := 12) (t := 16) (by decide +kernel) k1 (by decide) (fun c3 => ?_) (fun c3 => ?_)
    · replace H := H.1 c3
      refine vx_iconst (n := 0) (q := 17) (by decide +kernel) ?_
      refine vx_retZ (q := 18) (by decide +kernel) (Or.inl rfl) ?_
      exact H
    · replace H := H.2 c3
      refine vx_iconst (n := 1) (q := 13) (by decide +kernel) ?_
      refine vx_goto (off := 4) (q := 16) (t := 17) (by decide +kernel) ?_
      refine vx_retZ (q := 18) (by decide +kernel) (Or.inr rfl) ?_
      exact H
-- RuleHouseModel.isSmall(I)Z
theorem vg_24 {d : Nat} {h : ve_H} {P : Int → ve_H → Prop} {x1 : Int} (hT : vx_T 625 672 h) (H : (vx_rI x1) ∧ ((x1 < 97 → P 0 h) ∧ (97 ≤ x1 → ((122 < x1 → P 0 h) ∧ (x1 ≤ 122 → P 1 h))))) : vx_CI d 24 [.int (vx_i x1)] h P := by
  refine vx_enter (ml := 1) (by decide +kernel) ?_
  show vx_W _ _ 0 [some (.int (vx_i x1))] [] h _
  refine vx_iload_n (n := 0) (q := 1) (by decide +kernel) rfl ?_
  refine vx_bipush (n := 97) (q := 3) (by decide +kernel) ?_
  obtain ⟨k1, H⟩ := H
  refine vx_icmp_lt (off := 13) (q := 6) (t := 16) (by decide +kernel) k1 (by decide) (fun c2 => ?_) (fun c2 => ?_)
  · replace H := H.1 c2
    refine vx_iconst (n := 0) (q := 17) (by decide +kernel) ?_
    refine vx_retZ (q := 18) (by decide +kernel) (Or.inl rfl) ?_
    exact H
  · replace H := H.2 c2
    refine vx_iload_n (n := 0) (q := 7) (by decide +kernel) rfl ?_
    refine vx_bipush (n := 122) (q := 9) (by decide +kernel) ?_
    refine vx_icmp_gt (off := 7) (q := 12) (t := 16) (by decide +kernel) k1 (by decide) (fun c3 => ?_) (fun c3 => ?_)
    · replace H := H.1 c3
      refine vx_iconst (n := 0) (q := 17) (by decide +kernel) ?_
      refine vx_retZ (q := 18) (by decide +kernel) (Or.inl rfl) ?_
      exact H
    · replace H := H.2 c3
      refine vx_iconst (n := 1) (q := 13) (by decide +kernel) ?_
      refine vx_goto (off := 4) (q := 16) (t := 17) (by decide +kernel) ?_
      refine vx_retZ (q := 18) (by decide +kernel) (Or.inr rfl) ?_
      exact H
-- RuleHouseModel.isGreat(I)Z
theorem vg_25 {d : Nat} {h : ve_H} {P : Int → ve_H → Prop} {x1 : Int} (hT : vx_T 625 672 h) (H : (vx_rI x1) ∧ ((x1 < 65 → P 0 h) ∧ (65 ≤ x1 → ((90 < x1 → P 0 h) ∧ (x1 ≤ 90 → P 1 h))))) : vx_CI d 25 [.int (vx_i x1)] h P := by
  refine vx_enter (ml := 1) (by decide +kernel) ?_
  show vx_W _ _ 0 [some (.int (vx_i x1))] [] h _
  refine vx_iload_n (n := 0) (q := 1) (by decide +kernel) rfl ?_
  refine vx_bipush (n := 65) (q := 3) (by decide +kernel) ?_
  obtain ⟨k1, H⟩ := H
  refine vx_icmp_lt (off := 13) (q := 6) (t := 16) (by decide +kernel) k1 (by decide) (fun c2 => ?_) (fun c2 => ?_)
  · replace H := H.1 c2
    refine vx_iconst (n := 0) (q := 17) (by decide +kernel) ?_
    refine vx_retZ (q := 18) (by decide +kernel) (Or.inl rfl) ?_
    exact H
  · replace H := H.2 c2
    refine vx_iload_n (n := 0) (q := 7) (by decide +kernel) rfl ?_
    refine vx_bipush (n := 90) (q := 9) (by decide +kernel) ?_
    refine vx_icmp_gt (off := 7) (q := 12) (t := 16) (by decide +kernel) k1 (by decide) (fun c3 => ?_) (fun c3 => ?_)
    · replace H := H.1 c3
      refine vx_iconst (n := 0) (q := 17) (by decide +kernel) ?_
      refine vx_retZ (q := 18) (by decide +kernel) (Or.inl rfl) ?_
      exact H
    · replace H := H.2 c3
      refine vx_iconst (n := 1) (q := 13) (by decide +kernel) ?_
      refine vx_goto (off := 4) (q := 16) (t := 17) (by decide +kernel) ?_
      refine vx_retZ (q := 18) (by decide +kernel) (Or.inr rfl) ?_
      exact H
-- RuleHouseModel.isPart(I)Z
theorem vg_26 {d : Nat} {h : ve_H} {P : Int → ve_H → Prop} {x1 : Int} (hT : vx_T 625 672 h) (H : vx_CI d 24 [.int (vx_i x1)] h (fun r1 h1 => vx_T 625 672 h1 → ((r1 ≠ 0 → P 1 h1) ∧ (r1 = 0 → vx_CI d 25 [.int (vx_i x1)] h1 (fun r3 h3 => vx_T 625 672 h3 → ((r3 ≠ 0 → P 1 h3) ∧ (r3 = 0 → vx_CI d 23 [.int (vx_i x1)] h3 (fun r5 h5 => vx_T 625 672 h5 → ((r5 = 0 → P 0 h5) ∧ (r5 ≠ 0 → P 1 h5)))))))))) : vx_CI (d + 1) 26 [.int (vx_i x1)] h P := by
  refine vx_enter (ml := 1) (by decide +kernel) ?_
  show vx_W _ _ 0 [some (.int (vx_i x1))] [] h _
  refine vx_iload_n (n := 0) (q := 1) (by decide +kernel) rfl ?_
  refine vx_callI (i := .invokestatic 162) (how := 4) (cm := 24) (np := 1) (q := 4) (args := [.int (vx_i x1)]) (rest := []) (by decide +kernel) rfl rfl rfl (vx_w2 (w := 1) (ml := 1) rfl (by decide +kernel)) rfl H (fun r1 h1 hr1 hs1 H => ?_)
  have hT1 := vx_Tsh hT hs1
  replace H := H hT1
  refine vx_if0_ne (off := 17) (q := 7) (t := 21) (by decide +kernel) hr1 (fun c2 => ?_) (fun c2 => ?_)
  · replace H := H.1 c2
    refine vx_iconst (n := 1) (q := 22) (by decide +kernel) ?_
    refine vx_goto (off := 4) (q := 25) (t := 26) (by decide +kernel) ?_
    refine vx_retZ (q := 27) (by decide +kernel) (Or.inr rfl) ?_
    exact H
  · replace H := H.2 c2
    refine vx_iload_n (n := 0) (q := 8) (by decide +kernel) rfl ?_
    refine vx_callI (i := .invokestatic 166) (how := 4) (cm := 25) (np := 1) (q := 11) (args := [.int (vx_i x1)]) (rest := []) (by decide +kernel) rfl rfl rfl (vx_w2 (w := 1) (ml := 1) rfl (by decide +kernel)) rfl H (fun r3 h3 hr3 hs3 H => ?_)
    have hT3 := vx_Tsh hT1 hs3
    replace H := H hT3
    refine vx_if0_ne (off := 10) (q := 14) (t := 21) (by decide +kernel) hr3 (fun c4 => ?_) (fun c4 => ?_)
    · replace H := H.1 c4
      refine vx_iconst (n := 1) (q := 22) (by decide +kernel) ?_
      refine vx_goto (off := 4) (q := 25) (t := 26) (by decide +kernel) ?_
      refine vx_retZ (q := 27) (by decide +kernel) (Or.inr rfl) ?_
      exact H
    · replace H := H.2 c4
      refine vx_iload_n (n := 0) (q := 15) (by decide +kernel) rfl ?_
      refine vx_callI (i := .invokestatic 169) (how := 4) (cm := 23) (np := 1) (q := 18) (args := [.int (vx_i x1)]) (rest := []) (by decide +kernel) rfl rfl rfl (vx_w2 (w := 1) (ml := 1) rfl (by decide +kernel)) rfl H (fun r5 h5 hr5 hs5 H => ?_)
      have hT5 := vx_Tsh hT3 hs5
      replace H := H hT5
      refine vx_if0_eq (off := 7) (q := 21) (t := 25) (by decide +kernel) hr5 (fun c6 => ?_) (fun c6 => ?_)
      · replace H := H.1 c6
        refine vx_iconst (n := 0) (q := 26) (by decide +kernel) ?_
        refine vx_retZ (q := 27) (by decide +kernel) (Or.inl rfl) ?_
        exact H
      · replace H := H.2 c6
        refine vx_iconst (n := 1) (q := 22) (by decide +kernel) ?_
        refine vx_goto (off := 4) (q := 25) (t := 26) (by decide +kernel) ?_
        refine vx_retZ (q := 27) (by decide +kernel) (Or.inr rfl) ?_
        exact H
-- RuleHouseModel.packed(IIIII)J
theorem vg_28 {d : Nat} {h : ve_H} {P : Int → ve_H → Prop} {x1 : Int} {x2 : Int} {x3 : Int} {x4 : Int} {x5 : Int} (hT : vx_T 625 672 h) (H : (vx_rI x1) ∧ (vx_rI x2) ∧ (vx_rI x3) ∧ (vx_rI x4) ∧ (vx_rI x5) ∧ P (vx_lor (vx_lshl (vx_lor (vx_lshl (vx_lor (vx_lshl (vx_lor (vx_lshl x1 8) x2) 8) x3) 8) x4) 8) x5) h) : vx_CL d 28 [.int (vx_i x1), .int (vx_i x2), .int (vx_i x3), .int (vx_i x4), .int (vx_i x5)] h P := by
  refine vx_enter (ml := 5) (by decide +kernel) ?_
  show vx_W _ _ 0 [some (.int (vx_i x1)), some (.int (vx_i x2)), some (.int (vx_i x3)), some (.int (vx_i x4)), some (.int (vx_i x5))] [] h _
  refine vx_iload_n (n := 0) (q := 1) (by decide +kernel) rfl ?_
  obtain ⟨k1, H⟩ := H
  refine vx_i2l (q := 2) (by decide +kernel) k1 ?_
  refine vx_bipush (n := 8) (q := 4) (by decide +kernel) ?_
  refine vx_lshl1 (q := 5) (by decide +kernel) ?_
  refine vx_iload_n (n := 1) (q := 6) (by decide +kernel) rfl ?_
  obtain ⟨k2, H⟩ := H
  refine vx_i2l (q := 7) (by decide +kernel) k2 ?_
  refine vx_lor1 (q := 8) (by decide +kernel) ?_
  refine vx_bipush (n := 8) (q := 10) (by decide +kernel) ?_
  refine vx_lshl1 (q := 11) (by decide +kernel) ?_
  refine vx_iload_n (n := 2) (q := 12) (by decide +kernel) rfl ?_
  obtain ⟨k3, H⟩ := H
  refine vx_i2l (q := 13) (by decide +kernel) k3 ?_
  refine vx_lor1 (q := 14) (by decide +kernel) ?_
  refine vx_bipush (n := 8) (q := 16) (by decide +kernel) ?_
  refine vx_lshl1 (q := 17) (by decide +kernel) ?_
  refine vx_iload_n (n := 3) (q := 18) (by decide +kernel) rfl ?_
  obtain ⟨k4, H⟩ := H
  refine vx_i2l (q := 19) (by decide +kernel) k4 ?_
  refine vx_lor1 (q := 20) (by decide +kernel) ?_
  refine vx_bipush (n := 8) (q := 22) (by decide +kernel) ?_
  refine vx_lshl1 (q := 23) (by decide +kernel) ?_
  refine vx_iload (n := 4) (q := 25) (by decide +kernel) rfl ?_
  obtain ⟨k5, H⟩ := H
  refine vx_i2l (q := 26) (by decide +kernel) k5 ?_
  refine vx_lor1 (q := 27) (by decide +kernel) ?_
  refine vx_retL (q := 28) (by decide +kernel) (vx_rL_toInt _) ?_
  exact H
-- RuleHouseModel.wordOf(J)I
theorem vg_29 {d : Nat} {h : ve_H} {P : Int → ve_H → Prop} {x1 : Int} (hT : vx_T 625 672 h) (H : vx_CL d 28 [.int (vx_i 0), .int (vx_i 0), .int (vx_i 0), .int (vx_i 105), .int (vx_i 115)] h (fun r1 h1 => vx_T 625 672 h1 → (vx_rL x1) ∧ ((x1 ≠ r1 → vx_CL d 28 [.int (vx_i 99), .int (vx_i 111), .int (vx_i 117), .int (vx_i 110), .int (vx_i 116)] h1 (fun r4 h4 => vx_T 625 672 h4 → ((x1 ≠ r4 → vx_CL d 28 [.int (vx_i 0), .int (vx_i 0), .int (vx_i 115), .int (vx_i 117), .int (vx_i 109)] h4 (fun r6 h6 => vx_T 625 672 h6 → ((x1 ≠ r6 → vx_CL d 28 [.int (vx_i 108), .int (vx_i 101), .int (vx_i 97), .int (vx_i 115), .int (vx_i 116)] h6 (fun r8 h8 => vx_T 625 672 h8 → ((x1 ≠ r8 → vx_CL d 28 [.int (vx_i 0), .int (vx_i 109), .int (vx_i 111), .int (vx_i 115), .int (vx_i 116)] h8 (fun r10 h10 => vx_T 625 672 h10 → ((x1 ≠ r10 → P 0 h10) ∧ (x1 = r10 → P 5 h10)))) ∧ (x1 = r8 → P 4 h8)))) ∧ (x1 = r6 → P 3 h6)))) ∧ (x1 = r4 → P 2 h4)))) ∧ (x1 = r1 → P 1 h1)))) : vx_CI (d + 1) 29 [.long (vx_l x1)] h P := by
  refine vx_enter (ml := 2) (by decide +kernel) ?_
  show vx_W _ _ 0 [some (.long (vx_l x1)), none] [] h _
  refine vx_lload_n (n := 0) (q := 1) (by decide +kernel) rfl ?_
  refine vx_iconst (n := 0) (q := 2) (by decide +kernel) ?_
  refine vx_iconst (n := 0) (q := 3) (by decide +kernel) ?_
  refine vx_iconst (n := 0) (q := 4) (by decide +kernel) ?_
  refine vx_bipush (n := 105) (q := 6) (by decide +kernel) ?_
  refine vx_bipush (n := 115) (q := 8) (by decide +kernel) ?_
  refine vx_callL (i := .invokestatic 175) (how := 4) (cm := 28) (np := 5) (q := 11) (args := [.int (vx_i 0), .int (vx_i 0), .int (vx_i 0), .int (vx_i 105), .int (vx_i 115)]) (rest := [.long (vx_l x1)]) (by decide +kernel) rfl rfl rfl (vx_w2 (w := 5) (ml := 5) rfl (by decide +kernel)) rfl H (fun r1 h1 hr1 hs1 H => ?_)
  have hT1 := vx_Tsh hT hs1
  replace H := H hT1
  obtain ⟨k2, H⟩ := H
  refine vx_lc_ne (off := 5) (p := 12) (q := 15) (t := 17) (by decide +kernel) k2 hr1 (fun c3 => ?_) (fun c3 => ?_)
  · replace H := H.1 c3
    refine vx_lload_n (n := 0) (q := 18) (by decide +kernel) rfl ?_
    refine vx_bipush (n := 99) (q := 20) (by decide +kernel) ?_
    refine vx_bipush (n := 111) (q := 22) (by decide +kernel) ?_
    refine vx_bipush (n := 117) (q := 24) (by decide +kernel) ?_
    refine vx_bipush (n := 110) (q := 26) (by decide +kernel) ?_
    refine vx_bipush (n := 116) (q := 28) (by decide +kernel) ?_
    refine vx_callL (i := .invokestatic 175) (how := 4) (cm := 28) (np := 5) (q := 31) (args := [.int (vx_i 99), .int (vx_i 111), .int (vx_i 117), .int (vx_i 110), .int (vx_i 116)]) (rest := [.long (vx_l x1)]) (by decide +kernel) rfl rfl rfl (vx_w2 (w := 5) (ml := 5) rfl (by decide +kernel)) rfl H (fun r4 h4 hr4 hs4 H => ?_)
    have hT4 := vx_Tsh hT1 hs4
    replace H := H hT4
    refine vx_lc_ne (off := 5) (p := 32) (q := 35) (t := 37) (by decide +kernel) k2 hr4 (fun c5 => ?_) (fun c5 => ?_)
    · replace H := H.1 c5
      refine vx_lload_n (n := 0) (q := 38) (by decide +kernel) rfl ?_
      refine vx_iconst (n := 0) (q := 39) (by decide +kernel) ?_
      refine vx_iconst (n := 0) (q := 40) (by decide +kernel) ?_
      refine vx_bipush (n := 115) (q := 42) (by decide +kernel) ?_
      refine vx_bipush (n := 117) (q := 44) (by decide +kernel) ?_
      refine vx_bipush (n := 109) (q := 46) (by decide +kernel) ?_
      refine vx_callL (i := .invokestatic 175) (how := 4) (cm := 28) (np := 5) (q := 49) (args := [.int (vx_i 0), .int (vx_i 0), .int (vx_i 115), .int (vx_i 117), .int (vx_i 109)]) (rest := [.long (vx_l x1)]) (by decide +kernel) rfl rfl rfl (vx_w2 (w := 5) (ml := 5) rfl (by decide +kernel)) rfl H (fun r6 h6 hr6 hs6 H => ?_)
      have hT6 := vx_Tsh hT4 hs6
      replace H := H hT6
      refine vx_lc_ne (off := 5) (p := 50) (q := 53) (t := 55) (by decide +kernel) k2 hr6 (fun c7 => ?_) (fun c7 => ?_)
      · replace H := H.1 c7
        refine vx_lload_n (n := 0) (q := 56) (by decide +kernel) rfl ?_
        refine vx_bipush (n := 108) (q := 58) (by decide +kernel) ?_
        refine vx_bipush (n := 101) (q := 60) (by decide +kernel) ?_
        refine vx_bipush (n := 97) (q := 62) (by decide +kernel) ?_
        refine vx_bipush (n := 115) (q := 64) (by decide +kernel) ?_
        refine vx_bipush (n := 116) (q := 66) (by decide +kernel) ?_
        refine vx_callL (i := .invokestatic 175) (how := 4) (cm := 28) (np := 5) (q := 69) (args := [.int (vx_i 108), .int (vx_i 101), .int (vx_i 97), .int (vx_i 115), .int (vx_i 116)]) (rest := [.long (vx_l x1)]) (by decide +kernel) rfl rfl rfl (vx_w2 (w := 5) (ml := 5) rfl (by decide +kernel)) rfl H (fun r8 h8 hr8 hs8 H => ?_)
        have hT8 := vx_Tsh hT6 hs8
        replace H := H hT8
        refine vx_lc_ne (off := 5) (p := 70) (q := 73) (t := 75) (by decide +kernel) k2 hr8 (fun c9 => ?_) (fun c9 => ?_)
        · replace H := H.1 c9
          refine vx_lload_n (n := 0) (q := 76) (by decide +kernel) rfl ?_
          refine vx_iconst (n := 0) (q := 77) (by decide +kernel) ?_
          refine vx_bipush (n := 109) (q := 79) (by decide +kernel) ?_
          refine vx_bipush (n := 111) (q := 81) (by decide +kernel) ?_
          refine vx_bipush (n := 115) (q := 83) (by decide +kernel) ?_
          refine vx_bipush (n := 116) (q := 85) (by decide +kernel) ?_
          refine vx_callL (i := .invokestatic 175) (how := 4) (cm := 28) (np := 5) (q := 88) (args := [.int (vx_i 0), .int (vx_i 109), .int (vx_i 111), .int (vx_i 115), .int (vx_i 116)]) (rest := [.long (vx_l x1)]) (by decide +kernel) rfl rfl rfl (vx_w2 (w := 5) (ml := 5) rfl (by decide +kernel)) rfl H (fun r10 h10 hr10 hs10 H => ?_)
          have hT10 := vx_Tsh hT8 hs10
          replace H := H hT10
          refine vx_lc_ne (off := 7) (p := 89) (q := 92) (t := 96) (by decide +kernel) k2 hr10 (fun c11 => ?_) (fun c11 => ?_)
          · replace H := H.1 c11
            refine vx_iconst (n := 0) (q := 97) (by decide +kernel) ?_
            refine vx_retI (q := 98) (by decide +kernel) (by decide) ?_
            exact H
          · replace H := H.2 c11
            refine vx_iconst (n := 5) (q := 93) (by decide +kernel) ?_
            refine vx_goto (off := 4) (q := 96) (t := 97) (by decide +kernel) ?_
            refine vx_retI (q := 98) (by decide +kernel) (by decide) ?_
            exact H
        · replace H := H.2 c9
          refine vx_iconst (n := 4) (q := 74) (by decide +kernel) ?_
          refine vx_retI (q := 75) (by decide +kernel) (by decide) ?_
          exact H
      · replace H := H.2 c7
        refine vx_iconst (n := 3) (q := 54) (by decide +kernel) ?_
        refine vx_retI (q := 55) (by decide +kernel) (by decide) ?_
        exact H
    · replace H := H.2 c5
      refine vx_iconst (n := 2) (q := 36) (by decide +kernel) ?_
      refine vx_retI (q := 37) (by decide +kernel) (by decide) ?_
      exact H
  · replace H := H.2 c3
    refine vx_iconst (n := 1) (q := 16) (by decide +kernel) ?_
    refine vx_retI (q := 17) (by decide +kernel) (by decide) ?_
    exact H
-- RuleHouseModel.oneToken(I)I
theorem vg_31 {d : Nat} {h : ve_H} {P : Int → ve_H → Prop} {x1 : Int} (hT : vx_T 625 672 h) (H : (0 ≤ x1 ∧ x1 < 600) ∧ vx_CI d 23 [.int (vx_i (vx_J h 626 x1.toNat))] h (fun r2 h2 => vx_T 625 672 h2 → ((r2 = 0 → vx_CI d 24 [.int (vx_i (vx_J h 626 x1.toNat))] h2 (fun r4 h4 => vx_T 625 672 h4 → ((r4 = 0 → vx_CI d 25 [.int (vx_i (vx_J h 626 x1.toNat))] h4 (fun r6 h6 => vx_T 625 672 h6 → ((r6 = 0 → vx_CI d 22 [.ref 625, .int (vx_i (x1 + 1))] h6 (fun r8 h8 => vx_T 625 672 h8 → (((vx_J h 626 x1.toNat) ≠ 58 → (((vx_J h 626 x1.toNat) ≠ 33 → (((vx_J h 626 x1.toNat) ≠ 60 → (((vx_J h 626 x1.toNat) ≠ 62 → vx_W (d + 1) 31 378 [some (.ref 625), some (.int (vx_i x1)), some (.int (vx_i (vx_J h 626 x1.toNat))), some (.int (vx_i (x1 + 1))), some (.long (vx_l (vx_J h 626 x1.toNat))), none, some (.int (vx_i r8)), some (.int (vx_i 0)), none] [] h8 (vx_RI P)) ∧ ((vx_J h 626 x1.toNat) = 62 → ((r8 ≠ 61 → vx_W (d + 1) 31 378 [some (.ref 625), some (.int (vx_i x1)), some (.int (vx_i (vx_J h 626 x1.toNat))), some (.int (vx_i (x1 + 1))), some (.long (vx_l (vx_J h 626 x1.toNat))), none, some (.int (vx_i r8)), some (.int (vx_i 0)), none] [] h8 (vx_RI P)) ∧ (r8 = 61 → vx_W (d + 1) 31 378 [some (.ref 625), some (.int (vx_i x1)), some (.int (vx_i (vx_J h 626 x1.toNat))), some (.int (vx_i (x1 + 1))), some (.long (vx_l (vx_J h 626 x1.toNat))), none, some (.int (vx_i r8)), some (.int (vx_i 303)), none] [] h8 (vx_RI P)))))) ∧ ((vx_J h 626 x1.toNat) = 60 → ((r8 ≠ 61 → (((vx_J h 626 x1.toNat) ≠ 62 → vx_W (d + 1) 31 378 [some (.ref 625), some (.int (vx_i x1)), some (.int (vx_i (vx_J h 626 x1.toNat))), some (.int (vx_i (x1 + 1))), some (.long (vx_l (vx_J h 626 x1.toNat))), none, some (.int (vx_i r8)), some (.int (vx_i 0)), none] [] h8 (vx_RI P)) ∧ ((vx_J h 626 x1.toNat) = 62 → vx_W (d + 1) 31 378 [some (.ref 625), some (.int (vx_i x1)), some (.int (vx_i (vx_J h 626 x1.toNat))), some (.int (vx_i (x1 + 1))), some (.long (vx_l (vx_J h 626 x1.toNat))), none, some (.int (vx_i r8)), some (.int (vx_i 0)), none] [] h8 (vx_RI P)))) ∧ (r8 = 61 → vx_W (d + 1) 31 378 [some (.ref 625), some (.int (vx_i x1)), some (.int (vx_i (vx_J h 626 x1.toNat))), some (.int (vx_i (x1 + 1))), some (.long (vx_l (vx_J h 626 x1.toNat))), none, some (.int (vx_i r8)), some (.int (vx_i 302)), none] [] h8 (vx_RI P)))))) ∧ ((vx_J h 626 x1.toNat) = 33 → ((r8 ≠ 61 → (((vx_J h 626 x1.toNat) ≠ 60 → (((vx_J h 626 x1.toNat) ≠ 62 → vx_W (d + 1) 31 378 [some (.ref 625), some (.int (vx_i x1)), some (.int (vx_i (vx_J h 626 x1.toNat))), some (.int (vx_i (x1 + 1))), some (.long (vx_l (vx_J h 626 x1.toNat))), none, some (.int (vx_i r8)), some (.int (vx_i 0)), none] [] h8 (vx_RI P)) ∧ ((vx_J h 626 x1.toNat) = 62 → vx_W (d + 1) 31 378 [some (.ref 625), some (.int (vx_i x1)), some (.int (vx_i (vx_J h 626 x1.toNat))), some (.int (vx_i (x1 + 1))), some (.long (vx_l (vx_J h 626 x1.toNat))), none, some (.int (vx_i r8)), some (.int (vx_i 0)), none] [] h8 (vx_RI P)))) ∧ ((vx_J h 626 x1.toNat) = 60 → (((vx_J h 626 x1.toNat) ≠ 62 → vx_W (d + 1) 31 378 [some (.ref 625), some (.int (vx_i x1)), some (.int (vx_i (vx_J h 626 x1.toNat))), some (.int (vx_i (x1 + 1))), some (.long (vx_l (vx_J h 626 x1.toNat))), none, some (.int (vx_i r8)), some (.int (vx_i 0)), none] [] h8 (vx_RI P)) ∧ ((vx_J h 626 x1.toNat) = 62 → vx_W (d + 1) 31 378 [some (.ref 625), some (.int (vx_i x1)), some (.int (vx_i (vx_J h 626 x1.toNat))), some (.int (vx_i (x1 + 1))), some (.long (vx_l (vx_J h 626 x1.toNat))), none, some (.int (vx_i r8)), some (.int (vx_i 0)), none] [] h8 (vx_RI P)))))) ∧ (r8 = 61 → vx_W (d + 1) 31 378 [some (.ref 625), some (.int (vx_i x1)), some (.int (vx_i (vx_J h 626 x1.toNat))), some (.int (vx_i (x1 + 1))), some (.long (vx_l (vx_J h 626 x1.toNat))), none, some (.int (vx_i r8)), some (.int (vx_i 301)), none] [] h8 (vx_RI P)))))) ∧ ((vx_J h 626 x1.toNat) = 58 → ((r8 ≠ 45 → (((vx_J h 626 x1.toNat) ≠ 33 → (((vx_J h 626 x1.toNat) ≠ 60 → (((vx_J h 626 x1.toNat) ≠ 62 → vx_W (d + 1) 31 378 [some (.ref 625), some (.int (vx_i x1)), some (.int (vx_i (vx_J h 626 x1.toNat))), some (.int (vx_i (x1 + 1))), some (.long (vx_l (vx_J h 626 x1.toNat))), none, some (.int (vx_i r8)), some (.int (vx_i 0)), none] [] h8 (vx_RI P)) ∧ ((vx_J h 626 x1.toNat) = 62 → ((r8 ≠ 61 → vx_W (d + 1) 31 378 [some (.ref 625), some (.int (vx_i x1)), some (.int (vx_i (vx_J h 626 x1.toNat))), some (.int (vx_i (x1 + 1))), some (.long (vx_l (vx_J h 626 x1.toNat))), none, some (.int (vx_i r8)), some (.int (vx_i 0)), none] [] h8 (vx_RI P)) ∧ (r8 = 61 → vx_W (d + 1) 31 378 [some (.ref 625), some (.int (vx_i x1)), some (.int (vx_i (vx_J h 626 x1.toNat))), some (.int (vx_i (x1 + 1))), some (.long (vx_l (vx_J h 626 x1.toNat))), none, some (.int (vx_i r8)), some (.int (vx_i 303)), none] [] h8 (vx_RI P)))))) ∧ ((vx_J h 626 x1.toNat) = 60 → ((r8 ≠ 61 → (((vx_J h 626 x1.toNat) ≠ 62 → vx_W (d + 1) 31 378 [some (.ref 625), some (.int (vx_i x1)), some (.int (vx_i (vx_J h 626 x1.toNat))), some (.int (vx_i (x1 + 1))), some (.long (vx_l (vx_J h 626 x1.toNat))), none, some (.int (vx_i r8)), some (.int (vx_i 0)), none] [] h8 (vx_RI P)) ∧ ((vx_J h 626 x1.toNat) = 62 → vx_W (d + 1) 31 378 [some (.ref 625), some (.int (vx_i x1)), some (.int (vx_i (vx_J h 626 x1.toNat))), some (.int (vx_i (x1 + 1))), some (.long (vx_l (vx_J h 626 x1.toNat))), none, some (.int (vx_i r8)), some (.int (vx_i 0)), none] [] h8 (vx_RI P)))) ∧ (r8 = 61 → vx_W (d + 1) 31 378 [some (.ref 625), some (.int (vx_i x1)), some (.int (vx_i (vx_J h 626 x1.toNat))), some (.int (vx_i (x1 + 1))), some (.long (vx_l (vx_J h 626 x1.toNat))), none, some (.int (vx_i r8)), some (.int (vx_i 302)), none] [] h8 (vx_RI P)))))) ∧ ((vx_J h 626 x1.toNat) = 33 → ((r8 ≠ 61 → (((vx_J h 626 x1.toNat) ≠ 60 → (((vx_J h 626 x1.toNat) ≠ 62 → vx_W (d + 1) 31 378 [some (.ref 625), some (.int (vx_i x1)), some (.int (vx_i (vx_J h 626 x1.toNat))), some (.int (vx_i (x1 + 1))), some (.long (vx_l (vx_J h 626 x1.toNat))), none, some (.int (vx_i r8)), some (.int (vx_i 0)), none] [] h8 (vx_RI P)) ∧ ((vx_J h 626 x1.toNat) = 62 → vx_W (d + 1) 31 378 [some (.ref 625), some (.int (vx_i x1)), some (.int (vx_i (vx_J h 626 x1.toNat))), some (.int (vx_i (x1 + 1))), some (.long (vx_l (vx_J h 626 x1.toNat))), none, some (.int (vx_i r8)), some (.int (vx_i 0)), none] [] h8 (vx_RI P)))) ∧ ((vx_J h 626 x1.toNat) = 60 → (((vx_J h 626 x1.toNat) ≠ 62 → vx_W (d + 1) 31 378 [some (.ref 625), some (.int (vx_i x1)), some (.int (vx_i (vx_J h 626 x1.toNat))), some (.int (vx_i (x1 + 1))), some (.long (vx_l (vx_J h 626 x1.toNat))), none, some (.int (vx_i r8)), some (.int (vx_i 0)), none] [] h8 (vx_RI P)) ∧ ((vx_J h 626 x1.toNat) = 62 → vx_W (d + 1) 31 378 [some (.ref 625), some (.int (vx_i x1)), some (.int (vx_i (vx_J h 626 x1.toNat))), some (.int (vx_i (x1 + 1))), some (.long (vx_l (vx_J h 626 x1.toNat))), none, some (.int (vx_i r8)), some (.int (vx_i 0)), none] [] h8 (vx_RI P)))))) ∧ (r8 = 61 → vx_W (d + 1) 31 378 [some (.ref 625), some (.int (vx_i x1)), some (.int (vx_i (vx_J h 626 x1.toNat))), some (.int (vx_i (x1 + 1))), some (.long (vx_l (vx_J h 626 x1.toNat))), none, some (.int (vx_i r8)), some (.int (vx_i 301)), none] [] h8 (vx_RI P)))))) ∧ (r8 = 45 → vx_W (d + 1) 31 378 [some (.ref 625), some (.int (vx_i x1)), some (.int (vx_i (vx_J h 626 x1.toNat))), some (.int (vx_i (x1 + 1))), some (.long (vx_l (vx_J h 626 x1.toNat))), none, some (.int (vx_i r8)), some (.int (vx_i 300)), none] [] h8 (vx_RI P))))))) ∧ (r6 ≠ 0 → vx_W (d + 1) 31 225 [some (.ref 625), some (.int (vx_i x1)), some (.int (vx_i (vx_J h 626 x1.toNat))), some (.int (vx_i (x1 + 1))), some (.long (vx_l (vx_J h 626 x1.toNat))), none, none, none, none] [] h6 (vx_RI P))))) ∧ (r4 ≠ 0 → vx_W (d + 1) 31 110 [some (.ref 625), some (.int (vx_i x1)), some (.int (vx_i (vx_J h 626 x1.toNat))), some (.int (vx_i (x1 + 1))), some (.long (vx_l (vx_J h 626 x1.toNat))), none, none, none, none] [] h4 (vx_RI P))))) ∧ (r2 ≠ 0 → (vx_rI ((vx_J h 626 x1.toNat) - 48)) ∧ vx_W (d + 1) 31 29 [some (.ref 625), some (.int (vx_i x1)), some (.int (vx_i (vx_J h 626 x1.toNat))), some (.int (vx_i (x1 + 1))), some (.long (vx_l ((vx_J h 626 x1.toNat) - 48))), none, none, none, none] [] h2 (vx_RI P))))) : vx_CI (d + 1) 31 [.ref 625, .int (vx_i x1)] h P := by
  refine vx_enter (ml := 9) (by decide +kernel) ?_
  show vx_W _ _ 0 [some (.ref 625), some (.int (vx_i x1)), none, none, none, none, none, none, none] [] h _
  refine vx_aload_n (n := 0) (q := 1) (by decide +kernel) rfl ?_
  refine vx_getR (b := 626) (idx := 7) (kd := 9) (s := 1) (fin := true) (q := 4) (by decide +kernel) (vx_Tk hT (by decide +kernel)) (vx_Tr hT (kd := 9) (by decide +kernel) (by decide +kernel) (by decide +kernel)) ?_
  refine vx_iload_n (n := 1) (q := 5) (by decide +kernel) rfl ?_
  obtain ⟨k1, H⟩ := H
  refine vx_iaload (z := 600) (q := 6) (by decide +kernel) (vx_Tk hT (by decide +kernel)) (vx_Tz hT (by decide +kernel)) (vx_ix k1 (by decide)) ?_
  refine vx_istore_n (n := 2) (q := 7) (lv' := [some (.ref 625), some (.int (vx_i x1)), some (.int (vx_i (vx_J h 626 x1.toNat))), none, none, none, none, none, none]) (by decide +kernel) rfl ?_
  refine vx_iload_n (n := 1) (q := 8) (by decide +kernel) rfl ?_
  refine vx_iconst (n := 1) (q := 9) (by decide +kernel) ?_
  refine vx_iadd (q := 10) (by decide +kernel) ?_
  refine vx_istore_n (n := 3) (q := 11) (lv' := [some (.ref 625), some (.int (vx_i x1)), some (.int (vx_i (vx_J h 626 x1.toNat))), some (.int (vx_i (x1 + 1))), none, none, none, none, none]) (by decide +kernel) rfl ?_
  refine vx_iload_n (n := 2) (q := 12) (by decide +kernel) rfl ?_
  refine vx_i2l (q := 13) (by decide +kernel) (vx_rI_J h 626 x1.toNat) ?_
  refine vx_lstore (n := 4) (q := 15) (lv' := [some (.ref 625), some (.int (vx_i x1)), some (.int (vx_i (vx_J h 626 x1.toNat))), some (.int (vx_i (x1 + 1))), some (.long (vx_l (vx_J h 626 x1.toNat))), none, none, none, none]) (by decide +kernel) rfl ?_
  refine vx_iload_n (n := 2) (q := 16) (by decide +kernel) rfl ?_
  refine vx_callI (i := .invokestatic 169) (how := 4) (cm := 23) (np := 1) (q := 19) (args := [.int (vx_i (vx_J h 626 x1.toNat))]) (rest := []) (by decide +kernel) rfl rfl rfl (vx_w2 (w := 1) (ml := 1) rfl (by decide +kernel)) rfl H (fun r2 h2 hr2 hs2 H => ?_)
  have hT2 := vx_Tsh hT hs2
  replace H := H hT2
  refine vx_if0_eq (off := 84) (q := 22) (t := 103) (by decide +kernel) hr2 (fun c3 => ?_) (fun c3 => ?_)
  · replace H := H.1 c3
    refine vx_iload_n (n := 2) (q := 104) (by decide +kernel) rfl ?_
    refine vx_callI (i := .invokestatic 162) (how := 4) (cm := 24) (np := 1) (q := 107) (args := [.int (vx_i (vx_J h 626 x1.toNat))]) (rest := []) (by decide +kernel) rfl rfl rfl (vx_w2 (w := 1) (ml := 1) rfl (by decide +kernel)) rfl H (fun r4 h4 hr4 hs4 H => ?_)
    have hT4 := vx_Tsh hT2 hs4
    replace H := H hT4
    refine vx_if0_eq (off := 111) (q := 110) (t := 218) (by decide +kernel) hr4 (fun c5 => ?_) (fun c5 => ?_)
    · replace H := H.1 c5
      refine vx_iload_n (n := 2) (q := 219) (by decide +kernel) rfl ?_
      refine vx_callI (i := .invokestatic 166) (how := 4) (cm := 25) (np := 1) (q := 222) (args := [.int (vx_i (vx_J h 626 x1.toNat))]) (rest := []) (by decide +kernel) rfl rfl rfl (vx_w2 (w := 1) (ml := 1) rfl (by decide +kernel)) rfl H (fun r6 h6 hr6 hs6 H => ?_)
      have hT6 := vx_Tsh hT4 hs6
      replace H := H hT6
      refine vx_if0_eq (off := 70) (q := 225) (t := 292) (by decide +kernel) hr6 (fun c7 => ?_) (fun c7 => ?_)
      · replace H := H.1 c7
        refine vx_aload_n (n := 0) (q := 293) (by decide +kernel) rfl ?_
        refine vx_iload_n (n := 3) (q := 294) (by decide +kernel) rfl ?_
        refine vx_callI (i := .invokevirtual 187) (how := 3) (cm := 22) (np := 2) (q := 297) (args := [.ref 625, .int (vx_i (x1 + 1))]) (rest := []) (by decide +kernel) rfl rfl rfl (vx_w2 (w := 2) (ml := 2) rfl (by decide +kernel)) (vx_rcv (kd := 9) (vx_Tk hT6 (by decide +kernel)) (by decide +kernel)) H (fun r8 h8 hr8 hs8 H => ?_)
        have hT8 := vx_Tsh hT6 hs8
        replace H := H hT8
        refine vx_istore (n := 6) (q := 299) (lv' := [some (.ref 625), some (.int (vx_i x1)), some (.int (vx_i (vx_J h 626 x1.toNat))), some (.int (vx_i (x1 + 1))), some (.long (vx_l (vx_J h 626 x1.toNat))), none, some (.int (vx_i r8)), none, none]) (by decide +kernel) rfl ?_
        refine vx_iload_n (n := 2) (q := 300) (by decide +kernel) rfl ?_
        refine vx_bipush (n := 58) (q := 302) (by decide +kernel) ?_
        refine vx_icmp_ne (off := 16) (q := 305) (t := 318) (by decide +kernel) (vx_rI_J h 626 x1.toNat) (by decide) (fun c9 => ?_) (fun c9 => ?_)
        · replace H := H.1 c9
          refine vx_iload_n (n := 2) (q := 319) (by decide +kernel) rfl ?_
          refine vx_bipush (n := 33) (q := 321) (by decide +kernel) ?_
          refine vx_icmp_ne (off := 16) (q := 324) (t := 337) (by decide +kernel) (vx_rI_J h 626 x1.toNat) (by decide) (fun c10 => ?_) (fun c10 => ?_)
          · replace H := H.1 c10
            refine vx_iload_n (n := 2) (q := 338) (by decide +kernel) rfl ?_
            refine vx_bipush (n := 60) (q := 340) (by decide +kernel) ?_
            refine vx_icmp_ne (off := 16) (q := 343) (t := 356) (by decide +kernel) (vx_rI_J h 626 x1.toNat) (by decide) (fun c11 => ?_) (fun c11 => ?_)
            · replace H := H.1 c11
              refine vx_iload_n (n := 2) (q := 357) (by decide +kernel) rfl ?_
              refine vx_bipush (n := 62) (q := 359) (by decide +kernel) ?_
              refine vx_icmp_ne (off := 16) (q := 362) (t := 375) (by decide +kernel) (vx_rI_J h 626 x1.toNat) (by decide) (fun c12 => ?_) (fun c12 => ?_)
              · replace H := H.1 c12
                refine vx_iconst (n := 0) (q := 376) (by decide +kernel) ?_
                refine vx_istore (n := 7) (q := 378) (lv' := [some (.ref 625), some (.int (vx_i x1)), some (.int (vx_i (vx_J h 626 x1.toNat))), some (.int (vx_i (x1 + 1))), some (.long (vx_l (vx_J h 626 x1.toNat))), none, some (.int (vx_i r8)), some (.int (vx_i 0)), none]) (by decide +kernel) rfl ?_
                exact H
              · replace H := H.2 c12
                refine vx_iload (n := 6) (q := 364) (by decide +kernel) rfl ?_
                refine vx_bipush (n := 61) (q := 366) (by decide +kernel) ?_
                refine vx_icmp_ne (off := 9) (q := 369) (t := 375) (by decide +kernel) hr8 (by decide) (fun c13 => ?_) (fun c13 => ?_)
                · replace H := H.1 c13
                  refine vx_iconst (n := 0) (q := 376) (by decide +kernel) ?_
                  refine vx_istore (n := 7) (q := 378) (lv' := [some (.ref 625), some (.int (vx_i x1)), some (.int (vx_i (vx_J h 626 x1.toNat))), some (.int (vx_i (x1 + 1))), some (.long (vx_l (vx_J h 626 x1.toNat))), none, some (.int (vx_i r8)), some (.int (vx_i 0)), none]) (by decide +kernel) rfl ?_
                  exact H
                · replace H := H.2 c13
                  refine vx_sipush (n := 303) (q := 372) (by decide +kernel) ?_
                  refine vx_goto (off := 4) (q := 375) (t := 376) (by decide +kernel) ?_
                  refine vx_istore (n := 7) (q := 378) (lv' := [some (.ref 625), some (.int (vx_i x1)), some (.int (vx_i (vx_J h 626 x1.toNat))), some (.int (vx_i (x1 + 1))), some (.long (vx_l (vx_J h 626 x1.toNat))), none, some (.int (vx_i r8)), some (.int (vx_i 303)), none]) (by decide +kernel) rfl ?_
                  exact H
            · replace H := H.2 c11
              refine vx_iload (n := 6) (q := 345) (by decide +kernel) rfl ?_
              refine vx_bipush (n := 61) (q := 347) (by decide +kernel) ?_
              refine vx_icmp_ne (off := 9) (q := 350) (t := 356) (by decide +kernel) hr8 (by decide) (fun c14 => ?_) (fun c14 => ?_)
              · replace H := H.1 c14
                refine vx_iload_n (n := 2) (q := 357) (by decide +kernel) rfl ?_
                refine vx_bipush (n := 62) (q := 359) (by decide +kernel) ?_
                refine vx_icmp_ne (off := 16) (q := 362) (t := 375) (by decide +kernel) (vx_rI_J h 626 x1.toNat) (by decide) (fun c15 => ?_) (fun c15 => ?_)
                · replace H := H.1 c15
                  refine vx_iconst (n := 0) (q := 376) (by decide +kernel) ?_
                  refine vx_istore (n := 7) (q := 378) (lv' := [some (.ref 625), some (.int (vx_i x1)), some (.int (vx_i (vx_J h 626 x1.toNat))), some (.int (vx_i (x1 + 1))), some (.long (vx_l (vx_J h 626 x1.toNat))), none, some (.int (vx_i r8)), some (.int (vx_i 0)), none]) (by decide +kernel) rfl ?_
                  exact H
                · replace H := H.2 c15
                  refine vx_iload (n := 6) (q := 364) (by decide +kernel) rfl ?_
                  refine vx_bipush (n := 61) (q := 366) (by decide +kernel) ?_
                  refine vx_icmp_ne (off := 9) (q := 369) (t := 375) (by decide +kernel) hr8 (by decide) (fun _ => ?_) (fun c => absurd c (by omega))
                  refine vx_iconst (n := 0) (q := 376) (by decide +kernel) ?_
                  refine vx_istore (n := 7) (q := 378) (lv' := [some (.ref 625), some (.int (vx_i x1)), some (.int (vx_i (vx_J h 626 x1.toNat))), some (.int (vx_i (x1 + 1))), some (.long (vx_l (vx_J h 626 x1.toNat))), none, some (.int (vx_i r8)), some (.int (vx_i 0)), none]) (by decide +kernel) rfl ?_
                  exact H
              · replace H := H.2 c14
                refine vx_sipush (n := 302) (q := 353) (by decide +kernel) ?_
                refine vx_goto (off := 23) (q := 356) (t := 376) (by decide +kernel) ?_
                refine vx_istore (n := 7) (q := 378) (lv' := [some (.ref 625), some (.int (vx_i x1)), some (.int (vx_i (vx_J h 626 x1.toNat))), some (.int (vx_i (x1 + 1))), some (.long (vx_l (vx_J h 626 x1.toNat))), none, some (.int (vx_i r8)), some (.int (vx_i 302)), none]) (by decide +kernel) rfl ?_
                exact H
          · replace H := H.2 c10
            refine vx_iload (n := 6) (q := 326) (by decide +kernel) rfl ?_
            refine vx_bipush (n := 61) (q := 328) (by decide +kernel) ?_
            refine vx_icmp_ne (off := 9) (q := 331) (t := 337) (by decide +kernel) hr8 (by decide) (fun c16 => ?_) (fun c16 => ?_)
            · replace H := H.1 c16
              refine vx_iload_n (n := 2) (q := 338) (by decide +kernel) rfl ?_
              refine vx_bipush (n := 60) (q := 340) (by decide +kernel) ?_
              refine vx_icmp_ne (off := 16) (q := 343) (t := 356) (by decide +kernel) (vx_rI_J h 626 x1.toNat) (by decide) (fun c17 => ?_) (fun c17 => ?_)
              · replace H := H.1 c17
                refine vx_iload_n (n := 2) (q := 357) (by decide +kernel) rfl ?_
                refine vx_bipush (n := 62) (q := 359) (by decide +kernel) ?_
                refine vx_icmp_ne (off := 16) (q := 362) (t := 375) (by decide +kernel) (vx_rI_J h 626 x1.toNat) (by decide) (fun c18 => ?_) (fun c18 => ?_)
                · replace H := H.1 c18
                  refine vx_iconst (n := 0) (q := 376) (by decide +kernel) ?_
                  refine vx_istore (n := 7) (q := 378) (lv' := [some (.ref 625), some (.int (vx_i x1)), some (.int (vx_i (vx_J h 626 x1.toNat))), some (.int (vx_i (x1 + 1))), some (.long (vx_l (vx_J h 626 x1.toNat))), none, some (.int (vx_i r8)), some (.int (vx_i 0)), none]) (by decide +kernel) rfl ?_
                  exact H
                · replace H := H.2 c18
                  refine vx_iload (n := 6) (q := 364) (by decide +kernel) rfl ?_
                  refine vx_bipush (n := 61) (q := 366) (by decide +kernel) ?_
                  refine vx_icmp_ne (off := 9) (q := 369) (t := 375) (by decide +kernel) hr8 (by decide) (fun _ => ?_) (fun c => absurd c (by omega))
                  refine vx_iconst (n := 0) (q := 376) (by decide +kernel) ?_
                  refine vx_istore (n := 7) (q := 378) (lv' := [some (.ref 625), some (.int (vx_i x1)), some (.int (vx_i (vx_J h 626 x1.toNat))), some (.int (vx_i (x1 + 1))), some (.long (vx_l (vx_J h 626 x1.toNat))), none, some (.int (vx_i r8)), some (.int (vx_i 0)), none]) (by decide +kernel) rfl ?_
                  exact H
              · replace H := H.2 c17
                refine vx_iload (n := 6) (q := 345) (by decide +kernel) rfl ?_
                refine vx_bipush (n := 61) (q := 347) (by decide +kernel) ?_
                refine vx_icmp_ne (off := 9) (q := 350) (t := 356) (by decide +kernel) hr8 (by decide) (fun _ => ?_) (fun c => absurd c (by omega))
                refine vx_iload_n (n := 2) (q := 357) (by decide +kernel) rfl ?_
                refine vx_bipush (n := 62) (q := 359) (by decide +kernel) ?_
                refine vx_icmp_ne (off := 16) (q := 362) (t := 375) (by decide +kernel) (vx_rI_J h 626 x1.toNat) (by decide) (fun c19 => ?_) (fun c19 => ?_)
                · replace H := H.1 c19
                  refine vx_iconst (n := 0) (q := 376) (by decide +kernel) ?_
                  refine vx_istore (n := 7) (q := 378) (lv' := [some (.ref 625), some (.int (vx_i x1)), some (.int (vx_i (vx_J h 626 x1.toNat))), some (.int (vx_i (x1 + 1))), some (.long (vx_l (vx_J h 626 x1.toNat))), none, some (.int (vx_i r8)), some (.int (vx_i 0)), none]) (by decide +kernel) rfl ?_
                  exact H
                · replace H := H.2 c19
                  refine vx_iload (n := 6) (q := 364) (by decide +kernel) rfl ?_
                  refine vx_bipush (n := 61) (q := 366) (by decide +kernel) ?_
                  refine vx_icmp_ne (off := 9) (q := 369) (t := 375) (by decide +kernel) hr8 (by decide) (fun _ => ?_) (fun c => absurd c (by omega))
                  refine vx_iconst (n := 0) (q := 376) (by decide +kernel) ?_
                  refine vx_istore (n := 7) (q := 378) (lv' := [some (.ref 625), some (.int (vx_i x1)), some (.int (vx_i (vx_J h 626 x1.toNat))), some (.int (vx_i (x1 + 1))), some (.long (vx_l (vx_J h 626 x1.toNat))), none, some (.int (vx_i r8)), some (.int (vx_i 0)), none]) (by decide +kernel) rfl ?_
                  exact H
            · replace H := H.2 c16
              refine vx_sipush (n := 301) (q := 334) (by decide +kernel) ?_
              refine vx_goto (off := 42) (q := 337) (t := 376) (by decide +kernel) ?_
              refine vx_istore (n := 7) (q := 378) (lv' := [some (.ref 625), some (.int (vx_i x1)), some (.int (vx_i (vx_J h 626 x1.toNat))), some (.int (vx_i (x1 + 1))), some (.long (vx_l (vx_J h 626 x1.toNat))), none, some (.int (vx_i r8)), some (.int (vx_i 301)), none]) (by decide +kernel) rfl ?_
              exact H
        · replace H := H.2 c9
          refine vx_iload (n := 6) (q := 307) (by decide +kernel) rfl ?_
          refine vx_bipush (n := 45) (q := 309) (by decide +kernel) ?_
          refine vx_icmp_ne (off := 9) (q := 312) (t := 318) (by decide +kernel) hr8 (by decide) (fun c20 => ?_) (fun c20 => ?_)
          · replace H := H.1 c20
            refine vx_iload_n (n := 2) (q := 319) (by decide +kernel) rfl ?_
            refine vx_bipush (n := 33) (q := 321) (by decide +kernel) ?_
            refine vx_icmp_ne (off := 16) (q := 324) (t := 337) (by decide +kernel) (vx_rI_J h 626 x1.toNat) (by decide) (fun c21 => ?_) (fun c21 => ?_)
            · replace H := H.1 c21
              refine vx_iload_n (n := 2) (q := 338) (by decide +kernel) rfl ?_
              refine vx_bipush (n := 60) (q := 340) (by decide +kernel) ?_
              refine vx_icmp_ne (off := 16) (q := 343) (t := 356) (by decide +kernel) (vx_rI_J h 626 x1.toNat) (by decide) (fun c22 => ?_) (fun c22 => ?_)
              · replace H := H.1 c22
                refine vx_iload_n (n := 2) (q := 357) (by decide +kernel) rfl ?_
                refine vx_bipush (n := 62) (q := 359) (by decide +kernel) ?_
                refine vx_icmp_ne (off := 16) (q := 362) (t := 375) (by decide +kernel) (vx_rI_J h 626 x1.toNat) (by decide) (fun c23 => ?_) (fun c23 => ?_)
                · replace H := H.1 c23
                  refine vx_iconst (n := 0) (q := 376) (by decide +kernel) ?_
                  refine vx_istore (n := 7) (q := 378) (lv' := [some (.ref 625), some (.int (vx_i x1)), some (.int (vx_i (vx_J h 626 x1.toNat))), some (.int (vx_i (x1 + 1))), some (.long (vx_l (vx_J h 626 x1.toNat))), none, some (.int (vx_i r8)), some (.int (vx_i 0)), none]) (by decide +kernel) rfl ?_
                  exact H
                · replace H := H.2 c23
                  refine vx_iload (n := 6) (q := 364) (by decide +kernel) rfl ?_
                  refine vx_bipush (n := 61) (q := 366) (by decide +kernel) ?_
                  refine vx_icmp_ne (off := 9) (q := 369) (t := 375) (by decide +kernel) hr8 (by decide) (fun c24 => ?_) (fun c24 => ?_)
                  · replace H := H.1 c24
                    refine vx_iconst (n := 0) (q := 376) (by decide +kernel) ?_
                    refine vx_istore (n := 7) (q := 378) (lv' := [some (.ref 625), some (.int (vx_i x1)), some (.int (vx_i (vx_J h 626 x1.toNat))), some (.int (vx_i (x1 + 1))), some (.long (vx_l (vx_J h 626 x1.toNat))), none, some (.int (vx_i r8)), some (.int (vx_i 0)), none]) (by decide +kernel) rfl ?_
                    exact H
                  · replace H := H.2 c24
                    refine vx_sipush (n := 303) (q := 372) (by decide +kernel) ?_
                    refine vx_goto (off := 4) (q := 375) (t := 376) (by decide +kernel) ?_
                    refine vx_istore (n := 7) (q := 378) (lv' := [some (.ref 625), some (.int (vx_i x1)), some (.int (vx_i (vx_J h 626 x1.toNat))), some (.int (vx_i (x1 + 1))), some (.long (vx_l (vx_J h 626 x1.toNat))), none, some (.int (vx_i r8)), some (.int (vx_i 303)), none]) (by decide +kernel) rfl ?_
                    exact H
              · replace H := H.2 c22
                refine vx_iload (n := 6) (q := 345) (by decide +kernel) rfl ?_
                refine vx_bipush (n := 61) (q := 347) (by decide +kernel) ?_
                refine vx_icmp_ne (off := 9) (q := 350) (t := 356) (by decide +kernel) hr8 (by decide) (fun c25 => ?_) (fun c25 => ?_)
                · replace H := H.1 c25
                  refine vx_iload_n (n := 2) (q := 357) (by decide +kernel) rfl ?_
                  refine vx_bipush (n := 62) (q := 359) (by decide +kernel) ?_
                  refine vx_icmp_ne (off := 16) (q := 362) (t := 375) (by decide +kernel) (vx_rI_J h 626 x1.toNat) (by decide) (fun c26 => ?_) (fun c26 => ?_)
                  · replace H := H.1 c26
                    refine vx_iconst (n := 0) (q := 376) (by decide +kernel) ?_
                    refine vx_istore (n := 7) (q := 378) (lv' := [some (.ref 625), some (.int (vx_i x1)), some (.int (vx_i (vx_J h 626 x1.toNat))), some (.int (vx_i (x1 + 1))), some (.long (vx_l (vx_J h 626 x1.toNat))), none, some (.int (vx_i r8)), some (.int (vx_i 0)), none]) (by decide +kernel) rfl ?_
                    exact H
                  · replace H := H.2 c26
                    refine vx_iload (n := 6) (q := 364) (by decide +kernel) rfl ?_
                    refine vx_bipush (n := 61) (q := 366) (by decide +kernel) ?_
                    refine vx_icmp_ne (off := 9) (q := 369) (t := 375) (by decide +kernel) hr8 (by decide) (fun _ => ?_) (fun c => absurd c (by omega))
                    refine vx_iconst (n := 0) (q := 376) (by decide +kernel) ?_
                    refine vx_istore (n := 7) (q := 378) (lv' := [some (.ref 625), some (.int (vx_i x1)), some (.int (vx_i (vx_J h 626 x1.toNat))), some (.int (vx_i (x1 + 1))), some (.long (vx_l (vx_J h 626 x1.toNat))), none, some (.int (vx_i r8)), some (.int (vx_i 0)), none]) (by decide +kernel) rfl ?_
                    exact H
                · replace H := H.2 c25
                  refine vx_sipush (n := 302) (q := 353) (by decide +kernel) ?_
                  refine vx_goto (off := 23) (q := 356) (t := 376) (by decide +kernel) ?_
                  refine vx_istore (n := 7) (q := 378) (lv' := [some (.ref 625), some (.int (vx_i x1)), some (.int (vx_i (vx_J h 626 x1.toNat))), some (.int (vx_i (x1 + 1))), some (.long (vx_l (vx_J h 626 x1.toNat))), none, some (.int (vx_i r8)), some (.int (vx_i 302)), none]) (by decide +kernel) rfl ?_
                  exact H
            · replace H := H.2 c21
              refine vx_iload (n := 6) (q := 326) (by decide +kernel) rfl ?_
              refine vx_bipush (n := 61) (q := 328) (by decide +kernel) ?_
              refine vx_icmp_ne (off := 9) (q := 331) (t := 337) (by decide +kernel) hr8 (by decide) (fun c27 => ?_) (fun c27 => ?_)
              · replace H := H.1 c27
                refine vx_iload_n (n := 2) (q := 338) (by decide +kernel) rfl ?_
                refine vx_bipush (n := 60) (q := 340) (by decide +kernel) ?_
                refine vx_icmp_ne (off := 16) (q := 343) (t := 356) (by decide +kernel) (vx_rI_J h 626 x1.toNat) (by decide) (fun c28 => ?_) (fun c28 => ?_)
                · replace H := H.1 c28
                  refine vx_iload_n (n := 2) (q := 357) (by decide +kernel) rfl ?_
                  refine vx_bipush (n := 62) (q := 359) (by decide +kernel) ?_
                  refine vx_icmp_ne (off := 16) (q := 362) (t := 375) (by decide +kernel) (vx_rI_J h 626 x1.toNat) (by decide) (fun c29 => ?_) (fun c29 => ?_)
                  · replace H := H.1 c29
                    refine vx_iconst (n := 0) (q := 376) (by decide +kernel) ?_
                    refine vx_istore (n := 7) (q := 378) (lv' := [some (.ref 625), some (.int (vx_i x1)), some (.int (vx_i (vx_J h 626 x1.toNat))), some (.int (vx_i (x1 + 1))), some (.long (vx_l (vx_J h 626 x1.toNat))), none, some (.int (vx_i r8)), some (.int (vx_i 0)), none]) (by decide +kernel) rfl ?_
                    exact H
                  · replace H := H.2 c29
                    refine vx_iload (n := 6) (q := 364) (by decide +kernel) rfl ?_
                    refine vx_bipush (n := 61) (q := 366) (by decide +kernel) ?_
                    refine vx_icmp_ne (off := 9) (q := 369) (t := 375) (by decide +kernel) hr8 (by decide) (fun _ => ?_) (fun c => absurd c (by omega))
                    refine vx_iconst (n := 0) (q := 376) (by decide +kernel) ?_
                    refine vx_istore (n := 7) (q := 378) (lv' := [some (.ref 625), some (.int (vx_i x1)), some (.int (vx_i (vx_J h 626 x1.toNat))), some (.int (vx_i (x1 + 1))), some (.long (vx_l (vx_J h 626 x1.toNat))), none, some (.int (vx_i r8)), some (.int (vx_i 0)), none]) (by decide +kernel) rfl ?_
                    exact H
                · replace H := H.2 c28
                  refine vx_iload (n := 6) (q := 345) (by decide +kernel) rfl ?_
                  refine vx_bipush (n := 61) (q := 347) (by decide +kernel) ?_
                  refine vx_icmp_ne (off := 9) (q := 350) (t := 356) (by decide +kernel) hr8 (by decide) (fun _ => ?_) (fun c => absurd c (by omega))
                  refine vx_iload_n (n := 2) (q := 357) (by decide +kernel) rfl ?_
                  refine vx_bipush (n := 62) (q := 359) (by decide +kernel) ?_
                  refine vx_icmp_ne (off := 16) (q := 362) (t := 375) (by decide +kernel) (vx_rI_J h 626 x1.toNat) (by decide) (fun c30 => ?_) (fun c30 => ?_)
                  · replace H := H.1 c30
                    refine vx_iconst (n := 0) (q := 376) (by decide +kernel) ?_
                    refine vx_istore (n := 7) (q := 378) (lv' := [some (.ref 625), some (.int (vx_i x1)), some (.int (vx_i (vx_J h 626 x1.toNat))), some (.int (vx_i (x1 + 1))), some (.long (vx_l (vx_J h 626 x1.toNat))), none, some (.int (vx_i r8)), some (.int (vx_i 0)), none]) (by decide +kernel) rfl ?_
                    exact H
                  · replace H := H.2 c30
                    refine vx_iload (n := 6) (q := 364) (by decide +kernel) rfl ?_
                    refine vx_bipush (n := 61) (q := 366) (by decide +kernel) ?_
                    refine vx_icmp_ne (off := 9) (q := 369) (t := 375) (by decide +kernel) hr8 (by decide) (fun _ => ?_) (fun c => absurd c (by omega))
                    refine vx_iconst (n := 0) (q := 376) (by decide +kernel) ?_
                    refine vx_istore (n := 7) (q := 378) (lv' := [some (.ref 625), some (.int (vx_i x1)), some (.int (vx_i (vx_J h 626 x1.toNat))), some (.int (vx_i (x1 + 1))), some (.long (vx_l (vx_J h 626 x1.toNat))), none, some (.int (vx_i r8)), some (.int (vx_i 0)), none]) (by decide +kernel) rfl ?_
                    exact H
              · replace H := H.2 c27
                refine vx_sipush (n := 301) (q := 334) (by decide +kernel) ?_
                refine vx_goto (off := 42) (q := 337) (t := 376) (by decide +kernel) ?_
                refine vx_istore (n := 7) (q := 378) (lv' := [some (.ref 625), some (.int (vx_i x1)), some (.int (vx_i (vx_J h 626 x1.toNat))), some (.int (vx_i (x1 + 1))), some (.long (vx_l (vx_J h 626 x1.toNat))), none, some (.int (vx_i r8)), some (.int (vx_i 301)), none]) (by decide +kernel) rfl ?_
                exact H
          · replace H := H.2 c20
            refine vx_sipush (n := 300) (q := 315) (by decide +kernel) ?_
            refine vx_goto (off := 61) (q := 318) (t := 376) (by decide +kernel) ?_
            refine vx_istore (n := 7) (q := 378) (lv' := [some (.ref 625), some (.int (vx_i x1)), some (.int (vx_i (vx_J h 626 x1.toNat))), some (.int (vx_i (x1 + 1))), some (.long (vx_l (vx_J h 626 x1.toNat))), none, some (.int (vx_i r8)), some (.int (vx_i 300)), none]) (by decide +kernel) rfl ?_
            exact H
      · replace H := H.2 c7
        exact H
    · replace H := H.2 c5
      exact H
  · replace H := H.2 c3
    refine vx_iload_n (n := 2) (q := 23) (by decide +kernel) rfl ?_
    refine vx_bipush (n := 48) (q := 25) (by decide +kernel) ?_
    refine vx_isub (q := 26) (by decide +kernel) ?_
    obtain ⟨k31, H⟩ := H
    refine vx_i2l (q := 27) (by decide +kernel) k31 ?_
    refine vx_lstore (n := 4) (q := 29) (lv' := [some (.ref 625), some (.int (vx_i x1)), some (.int (vx_i (vx_J h 626 x1.toNat))), some (.int (vx_i (x1 + 1))), some (.long (vx_l ((vx_J h 626 x1.toNat) - 48))), none, none, none, none]) (by decide +kernel) rfl ?_
    exact H
theorem vg_31_29 {d : Nat} {h : ve_H} {P : Int → ve_H → Prop} {v1 : Int} {v2 : Int} {v3 : Int} {v4 : Int} (hT : vx_T 625 672 h) (H : vx_CI d 22 [.ref 625, .int (vx_i v3)] h (fun r1 h1 => vx_T 625 672 h1 → vx_CI d 23 [.int (vx_i r1)] h1 (fun r2 h2 => vx_T 625 672 h2 → ((r2 = 0 → (vx_rI (v3 - v1)) ∧ (((v3 - v1) ≤ 9 → vx_CV d 27 [.ref 625, .int (vx_i 3), .int (vx_i 0), .int (vx_i v1), .long (vx_l v4)] h2 (fun h6 => vx_T 625 672 h6 → vx_W (d + 1) 31 521 [some (.ref 625), some (.int (vx_i v1)), some (.int (vx_i v2)), some (.int (vx_i v3)), some (.long (vx_l v4)), none, none, none, none] [] h6 (vx_RI P))) ∧ (9 < (v3 - v1) → vx_CV d 27 [.ref 625, .int (vx_i 6), .int (vx_i 0), .int (vx_i v1), .long (vx_l v4)] h2 (fun h7 => vx_T 625 672 h7 → vx_W (d + 1) 31 521 [some (.ref 625), some (.int (vx_i v1)), some (.int (vx_i v2)), some (.int (vx_i v3)), some (.long (vx_l v4)), none, none, none, none] [] h7 (vx_RI P))))) ∧ (r2 ≠ 0 → (vx_rI (v3 - v1)) ∧ ((9 ≤ (v3 - v1) → vx_W (d + 1) 31 29 [some (.ref 625), some (.int (vx_i v1)), some (.int (vx_i v2)), some (.int (vx_i (v3 + 1))), some (.long (vx_l v4)), none, none, none, none] [] h2 (vx_RI P)) ∧ ((v3 - v1) < 9 → vx_CI d 22 [.ref 625, .int (vx_i v3)] h2 (fun r10 h10 => vx_T 625 672 h10 → vx_W (d + 1) 31 29 [some (.ref 625), some (.int (vx_i v1)), some (.int (vx_i v2)), some (.int (vx_i (v3 + 1))), some (.long (vx_l (((10 * v4) + r10) - 48))), none, none, none, none] [] h10 (vx_RI P))))))))) : vx_W (d + 1) 31 29 [some (.ref 625), some (.int (vx_i v1)), some (.int (vx_i v2)), some (.int (vx_i v3)), some (.long (vx_l v4)), none, none, none, none] [] h (vx_RI P) := by
  refine vx_aload_n (n := 0) (q := 30) (by decide +kernel) rfl ?_
  refine vx_iload_n (n := 3) (q := 31) (by decide +kernel) rfl ?_
  refine vx_callI (i := .invokevirtual 187) (how := 3) (cm := 22) (np := 2) (q := 34) (args := [.ref 625, .int (vx_i v3)]) (rest := []) (by decide +kernel) rfl rfl rfl (vx_w2 (w := 2) (ml := 2) rfl (by decide +kernel)) (vx_rcv (kd := 9) (vx_Tk hT (by decide +kernel)) (by decide +kernel)) H (fun r1 h1 hr1 hs1 H => ?_)
  have hT1 := vx_Tsh hT hs1
  replace H := H hT1
  refine vx_callI (i := .invokestatic 169) (how := 4) (cm := 23) (np := 1) (q := 37) (args := [.int (vx_i r1)]) (rest := []) (by decide +kernel) rfl rfl rfl (vx_w2 (w := 1) (ml := 1) rfl (by decide +kernel)) rfl H (fun r2 h2 hr2 hs2 H => ?_)
  have hT2 := vx_Tsh hT1 hs2
  replace H := H hT2
  refine vx_if0_eq (off := 41) (q := 40) (t := 78) (by decide +kernel) hr2 (fun c3 => ?_) (fun c3 => ?_)
  · replace H := H.1 c3
    refine vx_aload_n (n := 0) (q := 79) (by decide +kernel) rfl ?_
    refine vx_iload_n (n := 3) (q := 80) (by decide +kernel) rfl ?_
    refine vx_iload_n (n := 1) (q := 81) (by decide +kernel) rfl ?_
    refine vx_isub (q := 82) (by decide +kernel) ?_
    refine vx_bipush (n := 9) (q := 84) (by decide +kernel) ?_
    obtain ⟨k4, H⟩ := H
    refine vx_icmp_le (off := 8) (q := 87) (t := 92) (by decide +kernel) k4 (by decide) (fun c5 => ?_) (fun c5 => ?_)
    · replace H := H.1 c5
      refine vx_iconst (n := 3) (q := 93) (by decide +kernel) ?_
      refine vx_iconst (n := 0) (q := 94) (by decide +kernel) ?_
      refine vx_iload_n (n := 1) (q := 95) (by decide +kernel) rfl ?_
      refine vx_lload (n := 4) (q := 97) (by decide +kernel) rfl ?_
      refine vx_callV (i := .invokevirtual 183) (how := 3) (cm := 27) (np := 5) (q := 100) (args := [.ref 625, .int (vx_i 3), .int (vx_i 0), .int (vx_i v1), .long (vx_l v4)]) (rest := []) (by decide +kernel) rfl rfl rfl (vx_w2 (w := 6) (ml := 6) rfl (by decide +kernel)) (vx_rcv (kd := 9) (vx_Tk hT2 (by decide +kernel)) (by decide +kernel)) H (fun h6 hs6 H => ?_)
      have hT6 := vx_Tsh hT2 hs6
      replace H := H hT6
      refine vx_goto (off := 421) (q := 103) (t := 521) (by decide +kernel) ?_
      exact H
    · replace H := H.2 c5
      refine vx_bipush (n := 6) (q := 89) (by decide +kernel) ?_
      refine vx_goto (off := 4) (q := 92) (t := 93) (by decide +kernel) ?_
      refine vx_iconst (n := 0) (q := 94) (by decide +kernel) ?_
      refine vx_iload_n (n := 1) (q := 95) (by decide +kernel) rfl ?_
      refine vx_lload (n := 4) (q := 97) (by decide +kernel) rfl ?_
      refine vx_callV (i := .invokevirtual 183) (how := 3) (cm := 27) (np := 5) (q := 100) (args := [.ref 625, .int (vx_i 6), .int (vx_i 0), .int (vx_i v1), .long (vx_l v4)]) (rest := []) (by decide +kernel) rfl rfl rfl (vx_w2 (w := 6) (ml := 6) rfl (by decide +kernel)) (vx_rcv (kd := 9) (vx_Tk hT2 (by decide +kernel)) (by decide +kernel)) H (fun h7 hs7 H => ?_)
      have hT7 := vx_Tsh hT2 hs7
      replace H := H hT7
      refine vx_goto (off := 421) (q := 103) (t := 521) (by decide +kernel) ?_
      exact H
  · replace H := H.2 c3
    refine vx_iload_n (n := 3) (q := 41) (by decide +kernel) rfl ?_
    refine vx_iload_n (n := 1) (q := 42) (by decide +kernel) rfl ?_
    refine vx_isub (q := 43) (by decide +kernel) ?_
    refine vx_bipush (n := 9) (q := 45) (by decide +kernel) ?_
    obtain ⟨k8, H⟩ := H
    refine vx_icmp_ge (off := 23) (q := 48) (t := 68) (by decide +kernel) k8 (by decide) (fun c9 => ?_) (fun c9 => ?_)
    · replace H := H.1 c9
      refine vx_lload (n := 4) (q := 70) (by decide +kernel) rfl ?_
      refine vx_lstore (n := 4) (q := 72) (lv' := [some (.ref 625), some (.int (vx_i v1)), some (.int (vx_i v2)), some (.int (vx_i v3)), some (.long (vx_l v4)), none, none, none, none]) (by decide +kernel) rfl ?_
      refine vx_iinc (n := 3) (m := 1) (x := v3) (q := 75) (lv' := [some (.ref 625), some (.int (vx_i v1)), some (.int (vx_i v2)), some (.int (vx_i (v3 + 1))), some (.long (vx_l v4)), none, none, none, none]) (by decide +kernel) rfl rfl ?_
      refine vx_goto (off := (-46)) (q := 78) (t := 29) (by decide +kernel) ?_
      exact H
    · replace H := H.2 c9
      refine vx_ldc (idx := 190) (v := 10) (m := 10) (q := 51) (by decide +kernel) ?_
      refine vx_lload (n := 4) (q := 53) (by decide +kernel) rfl ?_
      refine vx_lmul (q := 54) (by decide +kernel) ?_
      refine vx_aload_n (n := 0) (q := 55) (by decide +kernel) rfl ?_
      refine vx_iload_n (n := 3) (q := 56) (by decide +kernel) rfl ?_
      refine vx_callI (i := .invokevirtual 187) (how := 3) (cm := 22) (np := 2) (q := 59) (args := [.ref 625, .int (vx_i v3)]) (rest := [.long (vx_l (10 * v4))]) (by decide +kernel) rfl rfl rfl (vx_w2 (w := 2) (ml := 2) rfl (by decide +kernel)) (vx_rcv (kd := 9) (vx_Tk hT2 (by decide +kernel)) (by decide +kernel)) H (fun r10 h10 hr10 hs10 H => ?_)
      have hT10 := vx_Tsh hT2 hs10
      replace H := H hT10
      refine vx_i2l (q := 60) (by decide +kernel) hr10 ?_
      refine vx_ladd (q := 61) (by decide +kernel) ?_
      refine vx_ldc (idx := 192) (v := 48) (m := 48) (q := 64) (by decide +kernel) ?_
      refine vx_lsub (q := 65) (by decide +kernel) ?_
      refine vx_goto (off := 5) (q := 68) (t := 70) (by decide +kernel) ?_
      refine vx_lstore (n := 4) (q := 72) (lv' := [some (.ref 625), some (.int (vx_i v1)), some (.int (vx_i v2)), some (.int (vx_i v3)), some (.long (vx_l (((10 * v4) + r10) - 48))), none, none, none, none]) (by decide +kernel) rfl ?_
      refine vx_iinc (n := 3) (m := 1) (x := v3) (q := 75) (lv' := [some (.ref 625), some (.int (vx_i v1)), some (.int (vx_i v2)), some (.int (vx_i (v3 + 1))), some (.long (vx_l (((10 * v4) + r10) - 48))), none, none, none, none]) (by decide +kernel) rfl rfl ?_
      refine vx_goto (off := (-46)) (q := 78) (t := 29) (by decide +kernel) ?_
      exact H
theorem vg_31_110 {d : Nat} {h : ve_H} {P : Int → ve_H → Prop} {v1 : Int} {v2 : Int} {v3 : Int} {v4 : Int} (hT : vx_T 625 672 h) (H : vx_CI d 22 [.ref 625, .int (vx_i v3)] h (fun r1 h1 => vx_T 625 672 h1 → vx_CI d 24 [.int (vx_i r1)] h1 (fun r2 h2 => vx_T 625 672 h2 → ((r2 ≠ 0 → (vx_rI (v3 - v1)) ∧ ((7 ≤ (v3 - v1) → vx_W (d + 1) 31 110 [some (.ref 625), some (.int (vx_i v1)), some (.int (vx_i v2)), some (.int (vx_i (v3 + 1))), some (.long (vx_l v4)), none, none, none, none] [] h2 (vx_RI P)) ∧ ((v3 - v1) < 7 → vx_CI d 22 [.ref 625, .int (vx_i v3)] h2 (fun r6 h6 => vx_T 625 672 h6 → vx_W (d + 1) 31 110 [some (.ref 625), some (.int (vx_i v1)), some (.int (vx_i v2)), some (.int (vx_i (v3 + 1))), some (.long (vx_l (vx_lor (vx_lshl v4 8) r6))), none, none, none, none] [] h6 (vx_RI P))))) ∧ (r2 = 0 → vx_CI d 22 [.ref 625, .int (vx_i v3)] h2 (fun r7 h7 => vx_T 625 672 h7 → vx_CI d 23 [.int (vx_i r7)] h7 (fun r8 h8 => vx_T 625 672 h8 → ((r8 = 0 → (vx_rI (v3 - v1)) ∧ (((v3 - v1) ≤ 5 → vx_CI d 29 [.long (vx_l v4)] h8 (fun r12 h12 => vx_T 625 672 h12 → ((r12 ≤ 0 → (((v3 - v1) ≤ 6 → vx_CV d 27 [.ref 625, .int (vx_i 1), .int (vx_i r12), .int (vx_i v1), .long (vx_l v4)] h12 (fun h15 => vx_T 625 672 h15 → vx_W (d + 1) 31 521 [some (.ref 625), some (.int (vx_i v1)), some (.int (vx_i v2)), some (.int (vx_i v3)), some (.long (vx_l v4)), none, some (.int (vx_i r12)), none, none] [] h15 (vx_RI P))) ∧ (6 < (v3 - v1) → vx_CV d 27 [.ref 625, .int (vx_i 6), .int (vx_i r12), .int (vx_i v1), .long (vx_l v4)] h12 (fun h16 => vx_T 625 672 h16 → vx_W (d + 1) 31 521 [some (.ref 625), some (.int (vx_i v1)), some (.int (vx_i v2)), some (.int (vx_i v3)), some (.long (vx_l v4)), none, some (.int (vx_i r12)), none, none] [] h16 (vx_RI P))))) ∧ (0 < r12 → vx_CV d 27 [.ref 625, .int (vx_i 5), .int (vx_i r12), .int (vx_i v1), .long (vx_l v4)] h12 (fun h17 => vx_T 625 672 h17 → vx_W (d + 1) 31 521 [some (.ref 625), some (.int (vx_i v1)), some (.int (vx_i v2)), some (.int (vx_i v3)), some (.long (vx_l v4)), none, some (.int (vx_i r12)), none, none] [] h17 (vx_RI P)))))) ∧ (5 < (v3 - v1) → (((v3 - v1) ≤ 6 → vx_CV d 27 [.ref 625, .int (vx_i 1), .int (vx_i 0), .int (vx_i v1), .long (vx_l v4)] h8 (fun h19 => vx_T 625 672 h19 → vx_W (d + 1) 31 521 [some (.ref 625), some (.int (vx_i v1)), some (.int (vx_i v2)), some (.int (vx_i v3)), some (.long (vx_l v4)), none, some (.int (vx_i 0)), none, none] [] h19 (vx_RI P))) ∧ (6 < (v3 - v1) → vx_CV d 27 [.ref 625, .int (vx_i 6), .int (vx_i 0), .int (vx_i v1), .long (vx_l v4)] h8 (fun h20 => vx_T 625 672 h20 → vx_W (d + 1) 31 521 [some (.ref 625), some (.int (vx_i v1)), some (.int (vx_i v2)), some (.int (vx_i v3)), some (.long (vx_l v4)), none, some (.int (vx_i 0)), none, none] [] h20 (vx_RI P))))))) ∧ (r8 ≠ 0 → (vx_rI (v3 - v1)) ∧ ((7 ≤ (v3 - v1) → vx_W (d + 1) 31 110 [some (.ref 625), some (.int (vx_i v1)), some (.int (vx_i v2)), some (.int (vx_i (v3 + 1))), some (.long (vx_l v4)), none, none, none, none] [] h8 (vx_RI P)) ∧ ((v3 - v1) < 7 → vx_CI d 22 [.ref 625, .int (vx_i v3)] h8 (fun r23 h23 => vx_T 625 672 h23 → vx_W (d + 1) 31 110 [some (.ref 625), some (.int (vx_i v1)), some (.int (vx_i v2)), some (.int (vx_i (v3 + 1))), some (.long (vx_l (vx_lor (vx_lshl v4 8) r23))), none, none, none, none] [] h23 (vx_RI P))))))))))))) : vx_W (d + 1) 31 110 [some (.ref 625), some (.int (vx_i v1)), some (.int (vx_i v2)), some (.int (vx_i v3)), some (.long (vx_l v4)), none, none, none, none] [] h (vx_RI P) := by
  refine vx_aload_n (n := 0) (q := 111) (by decide +kernel) rfl ?_
  refine vx_iload_n (n := 3) (q := 112) (by decide +kernel) rfl ?_
  refine vx_callI (i := .invokevirtual 187) (how := 3) (cm := 22) (np := 2) (q := 115) (args := [.ref 625, .int (vx_i v3)]) (rest := []) (by decide +kernel) rfl rfl rfl (vx_w2 (w := 2) (ml := 2) rfl (by decide +kernel)) (vx_rcv (kd := 9) (vx_Tk hT (by decide +kernel)) (by decide +kernel)) H (fun r1 h1 hr1 hs1 H => ?_)
  have hT1 := vx_Tsh hT hs1
  replace H := H hT1
  refine vx_callI (i := .invokestatic 162) (how := 4) (cm := 24) (np := 1) (q := 118) (args := [.int (vx_i r1)]) (rest := []) (by decide +kernel) rfl rfl rfl (vx_w2 (w := 1) (ml := 1) rfl (by decide +kernel)) rfl H (fun r2 h2 hr2 hs2 H => ?_)
  have hT2 := vx_Tsh hT1 hs2
  replace H := H hT2
  refine vx_if0_ne (off := 14) (q := 121) (t := 132) (by decide +kernel) hr2 (fun c3 => ?_) (fun c3 => ?_)
  · replace H := H.1 c3
    refine vx_iload_n (n := 3) (q := 133) (by decide +kernel) rfl ?_
    refine vx_iload_n (n := 1) (q := 134) (by decide +kernel) rfl ?_
    refine vx_isub (q := 135) (by decide +kernel) ?_
    refine vx_bipush (n := 7) (q := 137) (by decide +kernel) ?_
    obtain ⟨k4, H⟩ := H
    refine vx_icmp_ge (off := 18) (q := 140) (t := 155) (by decide +kernel) k4 (by decide) (fun c5 => ?_) (fun c5 => ?_)
    · replace H := H.1 c5
      refine vx_lload (n := 4) (q := 157) (by decide +kernel) rfl ?_
      refine vx_lstore (n := 4) (q := 159) (lv' := [some (.ref 625), some (.int (vx_i v1)), some (.int (vx_i v2)), some (.int (vx_i v3)), some (.long (vx_l v4)), none, none, none, none]) (by decide +kernel) rfl ?_
      refine vx_iinc (n := 3) (m := 1) (x := v3) (q := 162) (lv' := [some (.ref 625), some (.int (vx_i v1)), some (.int (vx_i v2)), some (.int (vx_i (v3 + 1))), some (.long (vx_l v4)), none, none, none, none]) (by decide +kernel) rfl rfl ?_
      refine vx_goto (off := (-52)) (q := 165) (t := 110) (by decide +kernel) ?_
      exact H
    · replace H := H.2 c5
      refine vx_lload (n := 4) (q := 142) (by decide +kernel) rfl ?_
      refine vx_bipush (n := 8) (q := 144) (by decide +kernel) ?_
      refine vx_lshl1 (q := 145) (by decide +kernel) ?_
      refine vx_aload_n (n := 0) (q := 146) (by decide +kernel) rfl ?_
      refine vx_iload_n (n := 3) (q := 147) (by decide +kernel) rfl ?_
      refine vx_callI (i := .invokevirtual 187) (how := 3) (cm := 22) (np := 2) (q := 150) (args := [.ref 625, .int (vx_i v3)]) (rest := [.long (vx_l (vx_lshl v4 8))]) (by decide +kernel) rfl rfl rfl (vx_w2 (w := 2) (ml := 2) rfl (by decide +kernel)) (vx_rcv (kd := 9) (vx_Tk hT2 (by decide +kernel)) (by decide +kernel)) H (fun r6 h6 hr6 hs6 H => ?_)
      have hT6 := vx_Tsh hT2 hs6
      replace H := H hT6
      refine vx_i2l (q := 151) (by decide +kernel) hr6 ?_
      refine vx_lor1 (q := 152) (by decide +kernel) ?_
      refine vx_goto (off := 5) (q := 155) (t := 157) (by decide +kernel) ?_
      refine vx_lstore (n := 4) (q := 159) (lv' := [some (.ref 625), some (.int (vx_i v1)), some (.int (vx_i v2)), some (.int (vx_i v3)), some (.long (vx_l (vx_lor (vx_lshl v4 8) r6))), none, none, none, none]) (by decide +kernel) rfl ?_
      refine vx_iinc (n := 3) (m := 1) (x := v3) (q := 162) (lv' := [some (.ref 625), some (.int (vx_i v1)), some (.int (vx_i v2)), some (.int (vx_i (v3 + 1))), some (.long (vx_l (vx_lor (vx_lshl v4 8) r6))), none, none, none, none]) (by decide +kernel) rfl rfl ?_
      refine vx_goto (off := (-52)) (q := 165) (t := 110) (by decide +kernel) ?_
      exact H
  · replace H := H.2 c3
    refine vx_aload_n (n := 0) (q := 122) (by decide +kernel) rfl ?_
    refine vx_iload_n (n := 3) (q := 123) (by decide +kernel) rfl ?_
    refine vx_callI (i := .invokevirtual 187) (how := 3) (cm := 22) (np := 2) (q := 126) (args := [.ref 625, .int (vx_i v3)]) (rest := []) (by decide +kernel) rfl rfl rfl (vx_w2 (w := 2) (ml := 2) rfl (by decide +kernel)) (vx_rcv (kd := 9) (vx_Tk hT2 (by decide +kernel)) (by decide +kernel)) H (fun r7 h7 hr7 hs7 H => ?_)
    have hT7 := vx_Tsh hT2 hs7
    replace H := H hT7
    refine vx_callI (i := .invokestatic 169) (how := 4) (cm := 23) (np := 1) (q := 129) (args := [.int (vx_i r7)]) (rest := []) (by decide +kernel) rfl rfl rfl (vx_w2 (w := 1) (ml := 1) rfl (by decide +kernel)) rfl H (fun r8 h8 hr8 hs8 H => ?_)
    have hT8 := vx_Tsh hT7 hs8
    replace H := H hT8
    refine vx_if0_eq (off := 36) (q := 132) (t := 165) (by decide +kernel) hr8 (fun c9 => ?_) (fun c9 => ?_)
    · replace H := H.1 c9
      refine vx_iload_n (n := 3) (q := 166) (by decide +kernel) rfl ?_
      refine vx_iload_n (n := 1) (q := 167) (by decide +kernel) rfl ?_
      refine vx_isub (q := 168) (by decide +kernel) ?_
      refine vx_iconst (n := 5) (q := 169) (by decide +kernel) ?_
      obtain ⟨k10, H⟩ := H
      refine vx_icmp_le (off := 7) (q := 172) (t := 176) (by decide +kernel) k10 (by decide) (fun c11 => ?_) (fun c11 => ?_)
      · replace H := H.1 c11
        refine vx_lload (n := 4) (q := 178) (by decide +kernel) rfl ?_
        refine vx_callI (i := .invokestatic 194) (how := 4) (cm := 29) (np := 1) (q := 181) (args := [.long (vx_l v4)]) (rest := []) (by decide +kernel) rfl rfl rfl (vx_w2 (w := 2) (ml := 2) rfl (by decide +kernel)) rfl H (fun r12 h12 hr12 hs12 H => ?_)
        have hT12 := vx_Tsh hT8 hs12
        replace H := H hT12
        refine vx_istore (n := 6) (q := 183) (lv' := [some (.ref 625), some (.int (vx_i v1)), some (.int (vx_i v2)), some (.int (vx_i v3)), some (.long (vx_l v4)), none, some (.int (vx_i r12)), none, none]) (by decide +kernel) rfl ?_
        refine vx_aload_n (n := 0) (q := 184) (by decide +kernel) rfl ?_
        refine vx_iload (n := 6) (q := 186) (by decide +kernel) rfl ?_
        refine vx_if0_le (off := 7) (q := 189) (t := 193) (by decide +kernel) hr12 (fun c13 => ?_) (fun c13 => ?_)
        · replace H := H.1 c13
          refine vx_iload_n (n := 3) (q := 194) (by decide +kernel) rfl ?_
          refine vx_iload_n (n := 1) (q := 195) (by decide +kernel) rfl ?_
          refine vx_isub (q := 196) (by decide +kernel) ?_
          refine vx_bipush (n := 6) (q := 198) (by decide +kernel) ?_
          refine vx_icmp_le (off := 8) (q := 201) (t := 206) (by decide +kernel) k10 (by decide) (fun c14 => ?_) (fun c14 => ?_)
          · replace H := H.1 c14
            refine vx_iconst (n := 1) (q := 207) (by decide +kernel) ?_
            refine vx_iload (n := 6) (q := 209) (by decide +kernel) rfl ?_
            refine vx_iload_n (n := 1) (q := 210) (by decide +kernel) rfl ?_
            refine vx_lload (n := 4) (q := 212) (by decide +kernel) rfl ?_
            refine vx_callV (i := .invokevirtual 183) (how := 3) (cm := 27) (np := 5) (q := 215) (args := [.ref 625, .int (vx_i 1), .int (vx_i r12), .int (vx_i v1), .long (vx_l v4)]) (rest := []) (by decide +kernel) rfl rfl rfl (vx_w2 (w := 6) (ml := 6) rfl (by decide +kernel)) (vx_rcv (kd := 9) (vx_Tk hT12 (by decide +kernel)) (by decide +kernel)) H (fun h15 hs15 H => ?_)
            have hT15 := vx_Tsh hT12 hs15
            replace H := H hT15
            refine vx_goto (off := 306) (q := 218) (t := 521) (by decide +kernel) ?_
            exact H
          · replace H := H.2 c14
            refine vx_bipush (n := 6) (q := 203) (by decide +kernel) ?_
            refine vx_goto (off := 4) (q := 206) (t := 207) (by decide +kernel) ?_
            refine vx_iload (n := 6) (q := 209) (by decide +kernel) rfl ?_
            refine vx_iload_n (n := 1) (q := 210) (by decide +kernel) rfl ?_
            refine vx_lload (n := 4) (q := 212) (by decide +kernel) rfl ?_
            refine vx_callV (i := .invokevirtual 183) (how := 3) (cm := 27) (np := 5) (q := 215) (args := [.ref 625, .int (vx_i 6), .int (vx_i r12), .int (vx_i v1), .long (vx_l v4)]) (rest := []) (by decide +kernel) rfl rfl rfl (vx_w2 (w := 6) (ml := 6) rfl (by decide +kernel)) (vx_rcv (kd := 9) (vx_Tk hT12 (by decide +kernel)) (by decide +kernel)) H (fun h16 hs16 H => ?_)
            have hT16 := vx_Tsh hT12 hs16
            replace H := H hT16
            refine vx_goto (off := 306) (q := 218) (t := 521) (by decide +kernel) ?_
            exact H
        · replace H := H.2 c13
          refine vx_iconst (n := 5) (q := 190) (by decide +kernel) ?_
          refine vx_goto (off := 17) (q := 193) (t := 207) (by decide +kernel) ?_
          refine vx_iload (n := 6) (q := 209) (by decide +kernel) rfl ?_
          refine vx_iload_n (n := 1) (q := 210) (by decide +kernel) rfl ?_
          refine vx_lload (n := 4) (q := 212) (by decide +kernel) rfl ?_
          refine vx_callV (i := .invokevirtual 183) (how := 3) (cm := 27) (np := 5) (q := 215) (args := [.ref 625, .int (vx_i 5), .int (vx_i r12), .int (vx_i v1), .long (vx_l v4)]) (rest := []) (by decide +kernel) rfl rfl rfl (vx_w2 (w := 6) (ml := 6) rfl (by decide +kernel)) (vx_rcv (kd := 9) (vx_Tk hT12 (by decide +kernel)) (by decide +kernel)) H (fun h17 hs17 H => ?_)
          have hT17 := vx_Tsh hT12 hs17
          replace H := H hT17
          refine vx_goto (off := 306) (q := 218) (t := 521) (by decide +kernel) ?_
          exact H
      · replace H := H.2 c11
        refine vx_iconst (n := 0) (q := 173) (by decide +kernel) ?_
        refine vx_goto (off := 8) (q := 176) (t := 181) (by decide +kernel) ?_
        refine vx_istore (n := 6) (q := 183) (lv' := [some (.ref 625), some (.int (vx_i v1)), some (.int (vx_i v2)), some (.int (vx_i v3)), some (.long (vx_l v4)), none, some (.int (vx_i 0)), none, none]) (by decide +kernel) rfl ?_
        refine vx_aload_n (n := 0) (q := 184) (by decide +kernel) rfl ?_
        refine vx_iload (n := 6) (q := 186) (by decide +kernel) rfl ?_
        refine vx_if0_le (off := 7) (q := 189) (t := 193) (by decide +kernel) (by decide) (fun _ => ?_) (fun c => absurd c (by decide))
        refine vx_iload_n (n := 3) (q := 194) (by decide +kernel) rfl ?_
        refine vx_iload_n (n := 1) (q := 195) (by decide +kernel) rfl ?_
        refine vx_isub (q := 196) (by decide +kernel) ?_
        refine vx_bipush (n := 6) (q := 198) (by decide +kernel) ?_
        refine vx_icmp_le (off := 8) (q := 201) (t := 206) (by decide +kernel) k10 (by decide) (fun c18 => ?_) (fun c18 => ?_)
        · replace H := H.1 c18
          refine vx_iconst (n := 1) (q := 207) (by decide +kernel) ?_
          refine vx_iload (n := 6) (q := 209) (by decide +kernel) rfl ?_
          refine vx_iload_n (n := 1) (q := 210) (by decide +kernel) rfl ?_
          refine vx_lload (n := 4) (q := 212) (by decide +kernel) rfl ?_
          refine vx_callV (i := .invokevirtual 183) (how := 3) (cm := 27) (np := 5) (q := 215) (args := [.ref 625, .int (vx_i 1), .int (vx_i 0), .int (vx_i v1), .long (vx_l v4)]) (rest := []) (by decide +kernel) rfl rfl rfl (vx_w2 (w := 6) (ml := 6) rfl (by decide +kernel)) (vx_rcv (kd := 9) (vx_Tk hT8 (by decide +kernel)) (by decide +kernel)) H (fun h19 hs19 H => ?_)
          have hT19 := vx_Tsh hT8 hs19
          replace H := H hT19
          refine vx_goto (off := 306) (q := 218) (t := 521) (by decide +kernel) ?_
          exact H
        · replace H := H.2 c18
          refine vx_bipush (n := 6) (q := 203) (by decide +kernel) ?_
          refine vx_goto (off := 4) (q := 206) (t := 207) (by decide +kernel) ?_
          refine vx_iload (n := 6) (q := 209) (by decide +kernel) rfl ?_
          refine vx_iload_n (n := 1) (q := 210) (by decide +kernel) rfl ?_
          refine vx_lload (n := 4) (q := 212) (by decide +kernel) rfl ?_
          refine vx_callV (i := .invokevirtual 183) (how := 3) (cm := 27) (np := 5) (q := 215) (args := [.ref 625, .int (vx_i 6), .int (vx_i 0), .int (vx_i v1), .long (vx_l v4)]) (rest := []) (by decide +kernel) rfl rfl rfl (vx_w2 (w := 6) (ml := 6) rfl (by decide +kernel)) (vx_rcv (kd := 9) (vx_Tk hT8 (by decide +kernel)) (by decide +kernel)) H (fun h20 hs20 H => ?_)
          have hT20 := vx_Tsh hT8 hs20
          replace H := H hT20
          refine vx_goto (off := 306) (q := 218) (t := 521) (by decide +kernel) ?_
          exact H
    · replace H := H.2 c9
      refine vx_iload_n (n := 3) (q := 133) (by decide +kernel) rfl ?_
      refine vx_iload_n (n := 1) (q := 134) (by decide +kernel) rfl ?_
      refine vx_isub (q := 135) (by decide +kernel) ?_
      refine vx_bipush (n := 7) (q := 137) (by decide +kernel) ?_
      obtain ⟨k21, H⟩ := H
      refine vx_icmp_ge (off := 18) (q := 140) (t := 155) (by decide +kernel) k21 (by decide) (fun c22 => ?_) (fun c22 => ?_)
      · replace H := H.1 c22
        refine vx_lload (n := 4) (q := 157) (by decide +kernel) rfl ?_
        refine vx_lstore (n := 4) (q := 159) (lv' := [some (.ref 625), some (.int (vx_i v1)), some (.int (vx_i v2)), some (.int (vx_i v3)), some (.long (vx_l v4)), none, none, none, none]) (by decide +kernel) rfl ?_
        refine vx_iinc (n := 3) (m := 1) (x := v3) (q := 162) (lv' := [some (.ref 625), some (.int (vx_i v1)), some (.int (vx_i v2)), some (.int (vx_i (v3 + 1))), some (.long (vx_l v4)), none, none, none, none]) (by decide +kernel) rfl rfl ?_
        refine vx_goto (off := (-52)) (q := 165) (t := 110) (by decide +kernel) ?_
        exact H
      · replace H := H.2 c22
        refine vx_lload (n := 4) (q := 142) (by decide +kernel) rfl ?_
        refine vx_bipush (n := 8) (q := 144) (by decide +kernel) ?_
        refine vx_lshl1 (q := 145) (by decide +kernel) ?_
        refine vx_aload_n (n := 0) (q := 146) (by decide +kernel) rfl ?_
        refine vx_iload_n (n := 3) (q := 147) (by decide +kernel) rfl ?_
        refine vx_callI (i := .invokevirtual 187) (how := 3) (cm := 22) (np := 2) (q := 150) (args := [.ref 625, .int (vx_i v3)]) (rest := [.long (vx_l (vx_lshl v4 8))]) (by decide +kernel) rfl rfl rfl (vx_w2 (w := 2) (ml := 2) rfl (by decide +kernel)) (vx_rcv (kd := 9) (vx_Tk hT8 (by decide +kernel)) (by decide +kernel)) H (fun r23 h23 hr23 hs23 H => ?_)
        have hT23 := vx_Tsh hT8 hs23
        replace H := H hT23
        refine vx_i2l (q := 151) (by decide +kernel) hr23 ?_
        refine vx_lor1 (q := 152) (by decide +kernel) ?_
        refine vx_goto (off := 5) (q := 155) (t := 157) (by decide +kernel) ?_
        refine vx_lstore (n := 4) (q := 159) (lv' := [some (.ref 625), some (.int (vx_i v1)), some (.int (vx_i v2)), some (.int (vx_i v3)), some (.long (vx_l (vx_lor (vx_lshl v4 8) r23))), none, none, none, none]) (by decide +kernel) rfl ?_
        refine vx_iinc (n := 3) (m := 1) (x := v3) (q := 162) (lv' := [some (.ref 625), some (.int (vx_i v1)), some (.int (vx_i v2)), some (.int (vx_i (v3 + 1))), some (.long (vx_l (vx_lor (vx_lshl v4 8) r23))), none, none, none, none]) (by decide +kernel) rfl rfl ?_
        refine vx_goto (off := (-52)) (q := 165) (t := 110) (by decide +kernel) ?_
        exact H
theorem vg_31_225 {d : Nat} {h : ve_H} {P : Int → ve_H → Prop} {v1 : Int} {v2 : Int} {v3 : Int} {v4 : Int} (hT : vx_T 625 672 h) (H : vx_CI d 22 [.ref 625, .int (vx_i v3)] h (fun r1 h1 => vx_T 625 672 h1 → vx_CI d 26 [.int (vx_i r1)] h1 (fun r2 h2 => vx_T 625 672 h2 → ((r2 = 0 → (vx_rI (v3 - v1)) ∧ (((v3 - v1) ≤ 4 → vx_CV d 27 [.ref 625, .int (vx_i 2), .int (vx_i 0), .int (vx_i v1), .long (vx_l v4)] h2 (fun h6 => vx_T 625 672 h6 → vx_W (d + 1) 31 521 [some (.ref 625), some (.int (vx_i v1)), some (.int (vx_i v2)), some (.int (vx_i v3)), some (.long (vx_l v4)), none, none, none, none] [] h6 (vx_RI P))) ∧ (4 < (v3 - v1) → vx_CV d 27 [.ref 625, .int (vx_i 6), .int (vx_i 0), .int (vx_i v1), .long (vx_l v4)] h2 (fun h7 => vx_T 625 672 h7 → vx_W (d + 1) 31 521 [some (.ref 625), some (.int (vx_i v1)), some (.int (vx_i v2)), some (.int (vx_i v3)), some (.long (vx_l v4)), none, none, none, none] [] h7 (vx_RI P))))) ∧ (r2 ≠ 0 → (vx_rI (v3 - v1)) ∧ ((5 ≤ (v3 - v1) → vx_W (d + 1) 31 225 [some (.ref 625), some (.int (vx_i v1)), some (.int (vx_i v2)), some (.int (vx_i (v3 + 1))), some (.long (vx_l v4)), none, none, none, none] [] h2 (vx_RI P)) ∧ ((v3 - v1) < 5 → vx_CI d 22 [.ref 625, .int (vx_i v3)] h2 (fun r10 h10 => vx_T 625 672 h10 → vx_W (d + 1) 31 225 [some (.ref 625), some (.int (vx_i v1)), some (.int (vx_i v2)), some (.int (vx_i (v3 + 1))), some (.long (vx_l (vx_lor (vx_lshl v4 8) r10))), none, none, none, none] [] h10 (vx_RI P))))))))) : vx_W (d + 1) 31 225 [some (.ref 625), some (.int (vx_i v1)), some (.int (vx_i v2)), some (.int (vx_i v3)), some (.long (vx_l v4)), none, none, none, none] [] h (vx_RI P) := by
  refine vx_aload_n (n := 0) (q := 226) (by decide +kernel) rfl ?_
  refine vx_iload_n (n := 3) (q := 227) (by decide +kernel) rfl ?_
  refine vx_callI (i := .invokevirtual 187) (how := 3) (cm := 22) (np := 2) (q := 230) (args := [.ref 625, .int (vx_i v3)]) (rest := []) (by decide +kernel) rfl rfl rfl (vx_w2 (w := 2) (ml := 2) rfl (by decide +kernel)) (vx_rcv (kd := 9) (vx_Tk hT (by decide +kernel)) (by decide +kernel)) H (fun r1 h1 hr1 hs1 H => ?_)
  have hT1 := vx_Tsh hT hs1
  replace H := H hT1
  refine vx_callI (i := .invokestatic 198) (how := 4) (cm := 26) (np := 1) (q := 233) (args := [.int (vx_i r1)]) (rest := []) (by decide +kernel) rfl rfl rfl (vx_w2 (w := 1) (ml := 1) rfl (by decide +kernel)) rfl H (fun r2 h2 hr2 hs2 H => ?_)
  have hT2 := vx_Tsh hT1 hs2
  replace H := H hT2
  refine vx_if0_eq (off := 35) (q := 236) (t := 268) (by decide +kernel) hr2 (fun c3 => ?_) (fun c3 => ?_)
  · replace H := H.1 c3
    refine vx_aload_n (n := 0) (q := 269) (by decide +kernel) rfl ?_
    refine vx_iload_n (n := 3) (q := 270) (by decide +kernel) rfl ?_
    refine vx_iload_n (n := 1) (q := 271) (by decide +kernel) rfl ?_
    refine vx_isub (q := 272) (by decide +kernel) ?_
    refine vx_iconst (n := 4) (q := 273) (by decide +kernel) ?_
    obtain ⟨k4, H⟩ := H
    refine vx_icmp_le (off := 8) (q := 276) (t := 281) (by decide +kernel) k4 (by decide) (fun c5 => ?_) (fun c5 => ?_)
    · replace H := H.1 c5
      refine vx_iconst (n := 2) (q := 282) (by decide +kernel) ?_
      refine vx_iconst (n := 0) (q := 283) (by decide +kernel) ?_
      refine vx_iload_n (n := 1) (q := 284) (by decide +kernel) rfl ?_
      refine vx_lload (n := 4) (q := 286) (by decide +kernel) rfl ?_
      refine vx_callV (i := .invokevirtual 183) (how := 3) (cm := 27) (np := 5) (q := 289) (args := [.ref 625, .int (vx_i 2), .int (vx_i 0), .int (vx_i v1), .long (vx_l v4)]) (rest := []) (by decide +kernel) rfl rfl rfl (vx_w2 (w := 6) (ml := 6) rfl (by decide +kernel)) (vx_rcv (kd := 9) (vx_Tk hT2 (by decide +kernel)) (by decide +kernel)) H (fun h6 hs6 H => ?_)
      have hT6 := vx_Tsh hT2 hs6
      replace H := H hT6
      refine vx_goto (off := 232) (q := 292) (t := 521) (by decide +kernel) ?_
      exact H
    · replace H := H.2 c5
      refine vx_bipush (n := 6) (q := 278) (by decide +kernel) ?_
      refine vx_goto (off := 4) (q := 281) (t := 282) (by decide +kernel) ?_
      refine vx_iconst (n := 0) (q := 283) (by decide +kernel) ?_
      refine vx_iload_n (n := 1) (q := 284) (by decide +kernel) rfl ?_
      refine vx_lload (n := 4) (q := 286) (by decide +kernel) rfl ?_
      refine vx_callV (i := .invokevirtual 183) (how := 3) (cm := 27) (np := 5) (q := 289) (args := [.ref 625, .int (vx_i 6), .int (vx_i 0), .int (vx_i v1), .long (vx_l v4)]) (rest := []) (by decide +kernel) rfl rfl rfl (vx_w2 (w := 6) (ml := 6) rfl (by decide +kernel)) (vx_rcv (kd := 9) (vx_Tk hT2 (by decide +kernel)) (by decide +kernel)) H (fun h7 hs7 H => ?_)
      have hT7 := vx_Tsh hT2 hs7
      replace H := H hT7
      refine vx_goto (off := 232) (q := 292) (t := 521) (by decide +kernel) ?_
      exact H
  · replace H := H.2 c3
    refine vx_iload_n (n := 3) (q := 237) (by decide +kernel) rfl ?_
    refine vx_iload_n (n := 1) (q := 238) (by decide +kernel) rfl ?_
    refine vx_isub (q := 239) (by decide +kernel) ?_
    refine vx_iconst (n := 5) (q := 240) (by decide +kernel) ?_
    obtain ⟨k8, H⟩ := H
    refine vx_icmp_ge (off := 18) (q := 243) (t := 258) (by decide +kernel) k8 (by decide) (fun c9 => ?_) (fun c9 => ?_)
    · replace H := H.1 c9
      refine vx_lload (n := 4) (q := 260) (by decide +kernel) rfl ?_
      refine vx_lstore (n := 4) (q := 262) (lv' := [some (.ref 625), some (.int (vx_i v1)), some (.int (vx_i v2)), some (.int (vx_i v3)), some (.long (vx_l v4)), none, none, none, none]) (by decide +kernel) rfl ?_
      refine vx_iinc (n := 3) (m := 1) (x := v3) (q := 265) (lv' := [some (.ref 625), some (.int (vx_i v1)), some (.int (vx_i v2)), some (.int (vx_i (v3 + 1))), some (.long (vx_l v4)), none, none, none, none]) (by decide +kernel) rfl rfl ?_
      refine vx_goto (off := (-40)) (q := 268) (t := 225) (by decide +kernel) ?_
      exact H
    · replace H := H.2 c9
      refine vx_lload (n := 4) (q := 245) (by decide +kernel) rfl ?_
      refine vx_bipush (n := 8) (q := 247) (by decide +kernel) ?_
      refine vx_lshl1 (q := 248) (by decide +kernel) ?_
      refine vx_aload_n (n := 0) (q := 249) (by decide +kernel) rfl ?_
      refine vx_iload_n (n := 3) (q := 250) (by decide +kernel) rfl ?_
      refine vx_callI (i := .invokevirtual 187) (how := 3) (cm := 22) (np := 2) (q := 253) (args := [.ref 625, .int (vx_i v3)]) (rest := [.long (vx_l (vx_lshl v4 8))]) (by decide +kernel) rfl rfl rfl (vx_w2 (w := 2) (ml := 2) rfl (by decide +kernel)) (vx_rcv (kd := 9) (vx_Tk hT2 (by decide +kernel)) (by decide +kernel)) H (fun r10 h10 hr10 hs10 H => ?_)
      have hT10 := vx_Tsh hT2 hs10
      replace H := H hT10
      refine vx_i2l (q := 254) (by decide +kernel) hr10 ?_
      refine vx_lor1 (q := 255) (by decide +kernel) ?_
      refine vx_goto (off := 5) (q := 258) (t := 260) (by decide +kernel) ?_
      refine vx_lstore (n := 4) (q := 262) (lv' := [some (.ref 625), some (.int (vx_i v1)), some (.int (vx_i v2)), some (.int (vx_i v3)), some (.long (vx_l (vx_lor (vx_lshl v4 8) r10))), none, none, none, none]) (by decide +kernel) rfl ?_
      refine vx_iinc (n := 3) (m := 1) (x := v3) (q := 265) (lv' := [some (.ref 625), some (.int (vx_i v1)), some (.int (vx_i v2)), some (.int (vx_i (v3 + 1))), some (.long (vx_l (vx_lor (vx_lshl v4 8) r10))), none, none, none, none]) (by decide +kernel) rfl rfl ?_
      refine vx_goto (off := (-40)) (q := 268) (t := 225) (by decide +kernel) ?_
      exact H
theorem vg_31_378 {d : Nat} {h : ve_H} {P : Int → ve_H → Prop} {v1 : Int} {v2 : Int} {v3 : Int} {v4 : Int} {v6 : Int} {v7 : Int} (hT : vx_T 625 672 h) (H : (vx_rI v2) ∧ ((v2 = 40 → vx_W (d + 1) 31 475 [some (.ref 625), some (.int (vx_i v1)), some (.int (vx_i v2)), some (.int (vx_i v3)), some (.long (vx_l v4)), none, some (.int (vx_i v6)), some (.int (vx_i v7)), some (.int (vx_i 1))] [] h (vx_RI P)) ∧ (v2 ≠ 40 → ((v2 = 41 → vx_W (d + 1) 31 475 [some (.ref 625), some (.int (vx_i v1)), some (.int (vx_i v2)), some (.int (vx_i v3)), some (.long (vx_l v4)), none, some (.int (vx_i v6)), some (.int (vx_i v7)), some (.int (vx_i 1))] [] h (vx_RI P)) ∧ (v2 ≠ 41 → ((v2 = 44 → vx_W (d + 1) 31 475 [some (.ref 625), some (.int (vx_i v1)), some (.int (vx_i v2)), some (.int (vx_i v3)), some (.long (vx_l v4)), none, some (.int (vx_i v6)), some (.int (vx_i v7)), some (.int (vx_i 1))] [] h (vx_RI P)) ∧ (v2 ≠ 44 → ((v2 = 46 → vx_W (d + 1) 31 475 [some (.ref 625), some (.int (vx_i v1)), some (.int (vx_i v2)), some (.int (vx_i v3)), some (.long (vx_l v4)), none, some (.int (vx_i v6)), some (.int (vx_i v7)), some (.int (vx_i 1))] [] h (vx_RI P)) ∧ (v2 ≠ 46 → ((v2 = 63 → vx_W (d + 1) 31 475 [some (.ref 625), some (.int (vx_i v1)), some (.int (vx_i v2)), some (.int (vx_i v3)), some (.long (vx_l v4)), none, some (.int (vx_i v6)), some (.int (vx_i v7)), some (.int (vx_i 1))] [] h (vx_RI P)) ∧ (v2 ≠ 63 → ((v2 = 33 → vx_W (d + 1) 31 475 [some (.ref 625), some (.int (vx_i v1)), some (.int (vx_i v2)), some (.int (vx_i v3)), some (.long (vx_l v4)), none, some (.int (vx_i v6)), some (.int (vx_i v7)), some (.int (vx_i 1))] [] h (vx_RI P)) ∧ (v2 ≠ 33 → ((v2 = 95 → vx_W (d + 1) 31 475 [some (.ref 625), some (.int (vx_i v1)), some (.int (vx_i v2)), some (.int (vx_i v3)), some (.long (vx_l v4)), none, some (.int (vx_i v6)), some (.int (vx_i v7)), some (.int (vx_i 1))] [] h (vx_RI P)) ∧ (v2 ≠ 95 → ((v2 = 61 → vx_W (d + 1) 31 475 [some (.ref 625), some (.int (vx_i v1)), some (.int (vx_i v2)), some (.int (vx_i v3)), some (.long (vx_l v4)), none, some (.int (vx_i v6)), some (.int (vx_i v7)), some (.int (vx_i 1))] [] h (vx_RI P)) ∧ (v2 ≠ 61 → ((v2 = 60 → vx_W (d + 1) 31 475 [some (.ref 625), some (.int (vx_i v1)), some (.int (vx_i v2)), some (.int (vx_i v3)), some (.long (vx_l v4)), none, some (.int (vx_i v6)), some (.int (vx_i v7)), some (.int (vx_i 1))] [] h (vx_RI P)) ∧ (v2 ≠ 60 → ((v2 = 62 → vx_W (d + 1) 31 475 [some (.ref 625), some (.int (vx_i v1)), some (.int (vx_i v2)), some (.int (vx_i v3)), some (.long (vx_l v4)), none, some (.int (vx_i v6)), some (.int (vx_i v7)), some (.int (vx_i 1))] [] h (vx_RI P)) ∧ (v2 ≠ 62 → ((v2 = 43 → vx_W (d + 1) 31 475 [some (.ref 625), some (.int (vx_i v1)), some (.int (vx_i v2)), some (.int (vx_i v3)), some (.long (vx_l v4)), none, some (.int (vx_i v6)), some (.int (vx_i v7)), some (.int (vx_i 1))] [] h (vx_RI P)) ∧ (v2 ≠ 43 → ((v2 = 45 → vx_W (d + 1) 31 475 [some (.ref 625), some (.int (vx_i v1)), some (.int (vx_i v2)), some (.int (vx_i v3)), some (.long (vx_l v4)), none, some (.int (vx_i v6)), some (.int (vx_i v7)), some (.int (vx_i 1))] [] h (vx_RI P)) ∧ (v2 ≠ 45 → ((v2 = 42 → vx_W (d + 1) 31 475 [some (.ref 625), some (.int (vx_i v1)), some (.int (vx_i v2)), some (.int (vx_i v3)), some (.long (vx_l v4)), none, some (.int (vx_i v6)), some (.int (vx_i v7)), some (.int (vx_i 1))] [] h (vx_RI P)) ∧ (v2 ≠ 42 → ((v2 = 47 → vx_W (d + 1) 31 475 [some (.ref 625), some (.int (vx_i v1)), some (.int (vx_i v2)), some (.int (vx_i v3)), some (.long (vx_l v4)), none, some (.int (vx_i v6)), some (.int (vx_i v7)), some (.int (vx_i 1))] [] h (vx_RI P)) ∧ (v2 ≠ 47 → ((v2 ≠ 37 → vx_W (d + 1) 31 475 [some (.ref 625), some (.int (vx_i v1)), some (.int (vx_i v2)), some (.int (vx_i v3)), some (.long (vx_l v4)), none, some (.int (vx_i v6)), some (.int (vx_i v7)), some (.int (vx_i 0))] [] h (vx_RI P)) ∧ (v2 = 37 → vx_W (d + 1) 31 475 [some (.ref 625), some (.int (vx_i v1)), some (.int (vx_i v2)), some (.int (vx_i v3)), some (.long (vx_l v4)), none, some (.int (vx_i v6)), some (.int (vx_i v7)), some (.int (vx_i 1))] [] h (vx_RI P)))))))))))))))))))))))))))))))) : vx_W (d + 1) 31 378 [some (.ref 625), some (.int (vx_i v1)), some (.int (vx_i v2)), some (.int (vx_i v3)), some (.long (vx_l v4)), none, some (.int (vx_i v6)), some (.int (vx_i v7)), none] [] h (vx_RI P) := by
  refine vx_iload_n (n := 2) (q := 379) (by decide +kernel) rfl ?_
  refine vx_bipush (n := 40) (q := 381) (by decide +kernel) ?_
  obtain ⟨k1, H⟩ := H
  refine vx_icmp_eq (off := 87) (q := 384) (t := 468) (by decide +kernel) k1 (by decide) (fun c2 => ?_) (fun c2 => ?_)
  · replace H := H.1 c2
    refine vx_iconst (n := 1) (q := 469) (by decide +kernel) ?_
    refine vx_goto (off := 4) (q := 472) (t := 473) (by decide +kernel) ?_
    refine vx_istore (n := 8) (q := 475) (lv' := [some (.ref 625), some (.int (vx_i v1)), some (.int (vx_i v2)), some (.int (vx_i v3)), some (.long (vx_l v4)), none, some (.int (vx_i v6)), some (.int (vx_i v7)), some (.int (vx_i 1))]) (by decide +kernel) rfl ?_
    exact H
  · replace H := H.2 c2
    refine vx_iload_n (n := 2) (q := 385) (by decide +kernel) rfl ?_
    refine vx_bipush (n := 41) (q := 387) (by decide +kernel) ?_
    refine vx_icmp_eq (off := 81) (q := 390) (t := 468) (by decide +kernel) k1 (by decide) (fun c3 => ?_) (fun c3 => ?_)
    · replace H := H.1 c3
      refine vx_iconst (n := 1) (q := 469) (by decide +kernel) ?_
      refine vx_goto (off := 4) (q := 472) (t := 473) (by decide +kernel) ?_
      refine vx_istore (n := 8) (q := 475) (lv' := [some (.ref 625), some (.int (vx_i v1)), some (.int (vx_i v2)), some (.int (vx_i v3)), some (.long (vx_l v4)), none, some (.int (vx_i v6)), some (.int (vx_i v7)), some (.int (vx_i 1))]) (by decide +kernel) rfl ?_
      exact H
    · replace H := H.2 c3
      refine vx_iload_n (n := 2) (q := 391) (by decide +kernel) rfl ?_
      refine vx_bipush (n := 44) (q := 393) (by decide +kernel) ?_
      refine vx_icmp_eq (off := 75) (q := 396) (t := 468) (by decide +kernel) k1 (by decide) (fun c4 => ?_) (fun c4 => ?_)
      · replace H := H.1 c4
        refine vx_iconst (n := 1) (q := 469) (by decide +kernel) ?_
        refine vx_goto (off := 4) (q := 472) (t := 473) (by decide +kernel) ?_
        refine vx_istore (n := 8) (q := 475) (lv' := [some (.ref 625), some (.int (vx_i v1)), some (.int (vx_i v2)), some (.int (vx_i v3)), some (.long (vx_l v4)), none, some (.int (vx_i v6)), some (.int (vx_i v7)), some (.int (vx_i 1))]) (by decide +kernel) rfl ?_
        exact H
      · replace H := H.2 c4
        refine vx_iload_n (n := 2) (q := 397) (by decide +kernel) rfl ?_
        refine vx_bipush (n := 46) (q := 399) (by decide +kernel) ?_
        refine vx_icmp_eq (off := 69) (q := 402) (t := 468) (by decide +kernel) k1 (by decide) (fun c5 => ?_) (fun c5 => ?_)
        · replace H := H.1 c5
          refine vx_iconst (n := 1) (q := 469) (by decide +kernel) ?_
          refine vx_goto (off := 4) (q := 472) (t := 473) (by decide +kernel) ?_
          refine vx_istore (n := 8) (q := 475) (lv' := [some (.ref 625), some (.int (vx_i v1)), some (.int (vx_i v2)), some (.int (vx_i v3)), some (.long (vx_l v4)), none, some (.int (vx_i v6)), some (.int (vx_i v7)), some (.int (vx_i 1))]) (by decide +kernel) rfl ?_
          exact H
        · replace H := H.2 c5
          refine vx_iload_n (n := 2) (q := 403) (by decide +kernel) rfl ?_
          refine vx_bipush (n := 63) (q := 405) (by decide +kernel) ?_
          refine vx_icmp_eq (off := 63) (q := 408) (t := 468) (by decide +kernel) k1 (by decide) (fun c6 => ?_) (fun c6 => ?_)
          · replace H := H.1 c6
            refine vx_iconst (n := 1) (q := 469) (by decide +kernel) ?_
            refine vx_goto (off := 4) (q := 472) (t := 473) (by decide +kernel) ?_
            refine vx_istore (n := 8) (q := 475) (lv' := [some (.ref 625), some (.int (vx_i v1)), some (.int (vx_i v2)), some (.int (vx_i v3)), some (.long (vx_l v4)), none, some (.int (vx_i v6)), some (.int (vx_i v7)), some (.int (vx_i 1))]) (by decide +kernel) rfl ?_
            exact H
          · replace H := H.2 c6
            refine vx_iload_n (n := 2) (q := 409) (by decide +kernel) rfl ?_
            refine vx_bipush (n := 33) (q := 411) (by decide +kernel) ?_
            refine vx_icmp_eq (off := 57) (q := 414) (t := 468) (by decide +kernel) k1 (by decide) (fun c7 => ?_) (fun c7 => ?_)
            · replace H := H.1 c7
              refine vx_iconst (n := 1) (q := 469) (by decide +kernel) ?_
              refine vx_goto (off := 4) (q := 472) (t := 473) (by decide +kernel) ?_
              refine vx_istore (n := 8) (q := 475) (lv' := [some (.ref 625), some (.int (vx_i v1)), some (.int (vx_i v2)), some (.int (vx_i v3)), some (.long (vx_l v4)), none, some (.int (vx_i v6)), some (.int (vx_i v7)), some (.int (vx_i 1))]) (by decide +kernel) rfl ?_
              exact H
            · replace H := H.2 c7
              refine vx_iload_n (n := 2) (q := 415) (by decide +kernel) rfl ?_
              refine vx_bipush (n := 95) (q := 417) (by decide +kernel) ?_
              refine vx_icmp_eq (off := 51) (q := 420) (t := 468) (by decide +kernel) k1 (by decide) (fun c8 => ?_) (fun c8 => ?_)
              · replace H := H.1 c8
                refine vx_iconst (n := 1) (q := 469) (by decide +kernel) ?_
                refine vx_goto (off := 4) (q := 472) (t := 473) (by decide +kernel) ?_
                refine vx_istore (n := 8) (q := 475) (lv' := [some (.ref 625), some (.int (vx_i v1)), some (.int (vx_i v2)), some (.int (vx_i v3)), some (.long (vx_l v4)), none, some (.int (vx_i v6)), some (.int (vx_i v7)), some (.int (vx_i 1))]) (by decide +kernel) rfl ?_
                exact H
              · replace H := H.2 c8
                refine vx_iload_n (n := 2) (q := 421) (by decide +kernel) rfl ?_
                refine vx_bipush (n := 61) (q := 423) (by decide +kernel) ?_
                refine vx_icmp_eq (off := 45) (q := 426) (t := 468) (by decide +kernel) k1 (by decide) (fun c9 => ?_) (fun c9 => ?_)
                · replace H := H.1 c9
                  refine vx_iconst (n := 1) (q := 469) (by decide +kernel) ?_
                  refine vx_goto (off := 4) (q := 472) (t := 473) (by decide +kernel) ?_
                  refine vx_istore (n := 8) (q := 475) (lv' := [some (.ref 625), some (.int (vx_i v1)), some (.int (vx_i v2)), some (.int (vx_i v3)), some (.long (vx_l v4)), none, some (.int (vx_i v6)), some (.int (vx_i v7)), some (.int (vx_i 1))]) (by decide +kernel) rfl ?_
                  exact H
                · replace H := H.2 c9
                  refine vx_iload_n (n := 2) (q := 427) (by decide +kernel) rfl ?_
                  refine vx_bipush (n := 60) (q := 429) (by decide +kernel) ?_
                  refine vx_icmp_eq (off := 39) (q := 432) (t := 468) (by decide +kernel) k1 (by decide) (fun c10 => ?_) (fun c10 => ?_)
                  · replace H := H.1 c10
                    refine vx_iconst (n := 1) (q := 469) (by decide +kernel) ?_
                    refine vx_goto (off := 4) (q := 472) (t := 473) (by decide +kernel) ?_
                    refine vx_istore (n := 8) (q := 475) (lv' := [some (.ref 625), some (.int (vx_i v1)), some (.int (vx_i v2)), some (.int (vx_i v3)), some (.long (vx_l v4)), none, some (.int (vx_i v6)), some (.int (vx_i v7)), some (.int (vx_i 1))]) (by decide +kernel) rfl ?_
                    exact H
                  · replace H := H.2 c10
                    refine vx_iload_n (n := 2) (q := 433) (by decide +kernel) rfl ?_
                    refine vx_bipush (n := 62) (q := 435) (by decide +kernel) ?_
                    refine vx_icmp_eq (off := 33) (q := 438) (t := 468) (by decide +kernel) k1 (by decide) (fun c11 => ?_) (fun c11 => ?_)
                    · replace H := H.1 c11
                      refine vx_iconst (n := 1) (q := 469) (by decide +kernel) ?_
                      refine vx_goto (off := 4) (q := 472) (t := 473) (by decide +kernel) ?_
                      refine vx_istore (n := 8) (q := 475) (lv' := [some (.ref 625), some (.int (vx_i v1)), some (.int (vx_i v2)), some (.int (vx_i v3)), some (.long (vx_l v4)), none, some (.int (vx_i v6)), some (.int (vx_i v7)), some (.int (vx_i 1))]) (by decide +kernel) rfl ?_
                      exact H
                    · replace H := H.2 c11
                      refine vx_iload_n (n := 2) (q := 439) (by decide +kernel) rfl ?_
                      refine vx_bipush (n := 43) (q := 441) (by decide +kernel) ?_
                      refine vx_icmp_eq (off := 27) (q := 444) (t := 468) (by decide +kernel) k1 (by decide) (fun c12 => ?_) (fun c12 => ?_)
                      · replace H := H.1 c12
                        refine vx_iconst (n := 1) (q := 469) (by decide +kernel) ?_
                        refine vx_goto (off := 4) (q := 472) (t := 473) (by decide +kernel) ?_
                        refine vx_istore (n := 8) (q := 475) (lv' := [some (.ref 625), some (.int (vx_i v1)), some (.int (vx_i v2)), some (.int (vx_i v3)), some (.long (vx_l v4)), none, some (.int (vx_i v6)), some (.int (vx_i v7)), some (.int (vx_i 1))]) (by decide +kernel) rfl ?_
                        exact H
                      · replace H := H.2 c12
                        refine vx_iload_n (n := 2) (q := 445) (by decide +kernel) rfl ?_
                        refine vx_bipush (n := 45) (q := 447) (by decide +kernel) ?_
                        refine vx_icmp_eq (off := 21) (q := 450) (t := 468) (by decide +kernel) k1 (by decide) (fun c13 => ?_) (fun c13 => ?_)
                        · replace H := H.1 c13
                          refine vx_iconst (n := 1) (q := 469) (by decide +kernel) ?_
                          refine vx_goto (off := 4) (q := 472) (t := 473) (by decide +kernel) ?_
                          refine vx_istore (n := 8) (q := 475) (lv' := [some (.ref 625), some (.int (vx_i v1)), some (.int (vx_i v2)), some (.int (vx_i v3)), some (.long (vx_l v4)), none, some (.int (vx_i v6)), some (.int (vx_i v7)), some (.int (vx_i 1))]) (by decide +kernel) rfl ?_
                          exact H
                        · replace H := H.2 c13
                          refine vx_iload_n (n := 2) (q := 451) (by decide +kernel) rfl ?_
                          refine vx_bipush (n := 42) (q := 453) (by decide +kernel) ?_
                          refine vx_icmp_eq (off := 15) (q := 456) (t := 468) (by decide +kernel) k1 (by decide) (fun c14 => ?_) (fun c14 => ?_)
                          · replace H := H.1 c14
                            refine vx_iconst (n := 1) (q := 469) (by decide +kernel) ?_
                            refine vx_goto (off := 4) (q := 472) (t := 473) (by decide +kernel) ?_
                            refine vx_istore (n := 8) (q := 475) (lv' := [some (.ref 625), some (.int (vx_i v1)), some (.int (vx_i v2)), some (.int (vx_i v3)), some (.long (vx_l v4)), none, some (.int (vx_i v6)), some (.int (vx_i v7)), some (.int (vx_i 1))]) (by decide +kernel) rfl ?_
                            exact H
                          · replace H := H.2 c14
                            refine vx_iload_n (n := 2) (q := 457) (by decide +kernel) rfl ?_
                            refine vx_bipush (n := 47) (q := 459) (by decide +kernel) ?_
                            refine vx_icmp_eq (off := 9) (q := 462) (t := 468) (by decide +kernel) k1 (by decide) (fun c15 => ?_) (fun c15 => ?_)
                            · replace H := H.1 c15
                              refine vx_iconst (n := 1) (q := 469) (by decide +kernel) ?_
                              refine vx_goto (off := 4) (q := 472) (t := 473) (by decide +kernel) ?_
                              refine vx_istore (n := 8) (q := 475) (lv' := [some (.ref 625), some (.int (vx_i v1)), some (.int (vx_i v2)), some (.int (vx_i v3)), some (.long (vx_l v4)), none, some (.int (vx_i v6)), some (.int (vx_i v7)), some (.int (vx_i 1))]) (by decide +kernel) rfl ?_
                              exact H
                            · replace H := H.2 c15
                              refine vx_iload_n (n := 2) (q := 463) (by decide +kernel) rfl ?_
                              refine vx_bipush (n := 37) (q := 465) (by decide +kernel) ?_
                              refine vx_icmp_ne (off := 7) (q := 468) (t := 472) (by decide +kernel) k1 (by decide) (fun c16 => ?_) (fun c16 => ?_)
                              · replace H := H.1 c16
                                refine vx_iconst (n := 0) (q := 473) (by decide +kernel) ?_
                                refine vx_istore (n := 8) (q := 475) (lv' := [some (.ref 625), some (.int (vx_i v1)), some (.int (vx_i v2)), some (.int (vx_i v3)), some (.long (vx_l v4)), none, some (.int (vx_i v6)), some (.int (vx_i v7)), some (.int (vx_i 0))]) (by decide +kernel) rfl ?_
                                exact H
                              · replace H := H.2 c16
                                refine vx_iconst (n := 1) (q := 469) (by decide +kernel) ?_
                                refine vx_goto (off := 4) (q := 472) (t := 473) (by decide +kernel) ?_
                                refine vx_istore (n := 8) (q := 475) (lv' := [some (.ref 625), some (.int (vx_i v1)), some (.int (vx_i v2)), some (.int (vx_i v3)), some (.long (vx_l v4)), none, some (.int (vx_i v6)), some (.int (vx_i v7)), some (.int (vx_i 1))]) (by decide +kernel) rfl ?_
                                exact H
theorem vg_31_475 {d : Nat} {h : ve_H} {P : Int → ve_H → Prop} {v1 : Int} {v2 : Int} {v3 : Int} {v4 : Int} {v6 : Int} {v7 : Int} {v8 : Int} (hT : vx_T 625 672 h) (H : (vx_rI v7) ∧ ((0 < v7 → vx_CV d 27 [.ref 625, .int (vx_i 4), .int (vx_i v7), .int (vx_i v1), .long (vx_l 0)] h (fun h3 => vx_T 625 672 h3 → vx_W (d + 1) 31 521 [some (.ref 625), some (.int (vx_i v1)), some (.int (vx_i v2)), some (.int (vx_i (v3 + 1))), some (.long (vx_l v4)), none, some (.int (vx_i v6)), some (.int (vx_i v7)), some (.int (vx_i v8))] [] h3 (vx_RI P))) ∧ (v7 ≤ 0 → (vx_rI v8) ∧ ((v8 = 0 → vx_CV d 27 [.ref 625, .int (vx_i 6), .int (vx_i v2), .int (vx_i v1), .long (vx_l 0)] h (fun h6 => vx_T 625 672 h6 → vx_W (d + 1) 31 521 [some (.ref 625), some (.int (vx_i v1)), some (.int (vx_i v2)), some (.int (vx_i (v3 + 0))), some (.long (vx_l v4)), none, some (.int (vx_i v6)), some (.int (vx_i v7)), some (.int (vx_i v8))] [] h6 (vx_RI P))) ∧ (v8 ≠ 0 → vx_CV d 27 [.ref 625, .int (vx_i 4), .int (vx_i v2), .int (vx_i v1), .long (vx_l 0)] h (fun h7 => vx_T 625 672 h7 → vx_W (d + 1) 31 521 [some (.ref 625), some (.int (vx_i v1)), some (.int (vx_i v2)), some (.int (vx_i (v3 + 0))), some (.long (vx_l v4)), none, some (.int (vx_i v6)), some (.int (vx_i v7)), some (.int (vx_i v8))] [] h7 (vx_RI P))))))) : vx_W (d + 1) 31 475 [some (.ref 625), some (.int (vx_i v1)), some (.int (vx_i v2)), some (.int (vx_i v3)), some (.long (vx_l v4)), none, some (.int (vx_i v6)), some (.int (vx_i v7)), some (.int (vx_i v8))] [] h (vx_RI P) := by
  refine vx_aload_n (n := 0) (q := 476) (by decide +kernel) rfl ?_
  refine vx_iload (n := 7) (q := 478) (by decide +kernel) rfl ?_
  obtain ⟨k1, H⟩ := H
  refine vx_if0_gt (off := 8) (q := 481) (t := 486) (by decide +kernel) k1 (fun c2 => ?_) (fun c2 => ?_)
  · replace H := H.1 c2
    refine vx_iconst (n := 4) (q := 487) (by decide +kernel) ?_
    refine vx_goto (off := 5) (q := 490) (t := 492) (by decide +kernel) ?_
    refine vx_iload (n := 7) (q := 494) (by decide +kernel) rfl ?_
    refine vx_if0_le (off := 8) (q := 497) (t := 502) (by decide +kernel) k1 (fun c => absurd c (by omega)) (fun _ => ?_)
    refine vx_iload (n := 7) (q := 499) (by decide +kernel) rfl ?_
    refine vx_goto (off := 4) (q := 502) (t := 503) (by decide +kernel) ?_
    refine vx_iload_n (n := 1) (q := 504) (by decide +kernel) rfl ?_
    refine vx_lconst (n := 0) (m := 0) (q := 505) (by decide +kernel) ?_
    refine vx_callV (i := .invokevirtual 183) (how := 3) (cm := 27) (np := 5) (q := 508) (args := [.ref 625, .int (vx_i 4), .int (vx_i v7), .int (vx_i v1), .long (vx_l 0)]) (rest := []) (by decide +kernel) rfl rfl rfl (vx_w2 (w := 6) (ml := 6) rfl (by decide +kernel)) (vx_rcv (kd := 9) (vx_Tk hT (by decide +kernel)) (by decide +kernel)) H (fun h3 hs3 H => ?_)
    have hT3 := vx_Tsh hT hs3
    replace H := H hT3
    refine vx_iload_n (n := 3) (q := 509) (by decide +kernel) rfl ?_
    refine vx_iload (n := 7) (q := 511) (by decide +kernel) rfl ?_
    refine vx_if0_le (off := 7) (q := 514) (t := 518) (by decide +kernel) k1 (fun c => absurd c (by omega)) (fun _ => ?_)
    refine vx_iconst (n := 1) (q := 515) (by decide +kernel) ?_
    refine vx_goto (off := 4) (q := 518) (t := 519) (by decide +kernel) ?_
    refine vx_iadd (q := 520) (by decide +kernel) ?_
    refine vx_istore_n (n := 3) (q := 521) (lv' := [some (.ref 625), some (.int (vx_i v1)), some (.int (vx_i v2)), some (.int (vx_i (v3 + 1))), some (.long (vx_l v4)), none, some (.int (vx_i v6)), some (.int (vx_i v7)), some (.int (vx_i v8))]) (by decide +kernel) rfl ?_
    exact H
  · replace H := H.2 c2
    refine vx_iload (n := 8) (q := 483) (by decide +kernel) rfl ?_
    obtain ⟨k4, H⟩ := H
    refine vx_if0_eq (off := 7) (q := 486) (t := 490) (by decide +kernel) k4 (fun c5 => ?_) (fun c5 => ?_)
    · replace H := H.1 c5
      refine vx_bipush (n := 6) (q := 492) (by decide +kernel) ?_
      refine vx_iload (n := 7) (q := 494) (by decide +kernel) rfl ?_
      refine vx_if0_le (off := 8) (q := 497) (t := 502) (by decide +kernel) k1 (fun _ => ?_) (fun c => absurd c (by omega))
      refine vx_iload_n (n := 2) (q := 503) (by decide +kernel) rfl ?_
      refine vx_iload_n (n := 1) (q := 504) (by decide +kernel) rfl ?_
      refine vx_lconst (n := 0) (m := 0) (q := 505) (by decide +kernel) ?_
      refine vx_callV (i := .invokevirtual 183) (how := 3) (cm := 27) (np := 5) (q := 508) (args := [.ref 625, .int (vx_i 6), .int (vx_i v2), .int (vx_i v1), .long (vx_l 0)]) (rest := []) (by decide +kernel) rfl rfl rfl (vx_w2 (w := 6) (ml := 6) rfl (by decide +kernel)) (vx_rcv (kd := 9) (vx_Tk hT (by decide +kernel)) (by decide +kernel)) H (fun h6 hs6 H => ?_)
      have hT6 := vx_Tsh hT hs6
      replace H := H hT6
      refine vx_iload_n (n := 3) (q := 509) (by decide +kernel) rfl ?_
      refine vx_iload (n := 7) (q := 511) (by decide +kernel) rfl ?_
      refine vx_if0_le (off := 7) (q := 514) (t := 518) (by decide +kernel) k1 (fun _ => ?_) (fun c => absurd c (by omega))
      refine vx_iconst (n := 0) (q := 519) (by decide +kernel) ?_
      refine vx_iadd (q := 520) (by decide +kernel) ?_
      refine vx_istore_n (n := 3) (q := 521) (lv' := [some (.ref 625), some (.int (vx_i v1)), some (.int (vx_i v2)), some (.int (vx_i (v3 + 0))), some (.long (vx_l v4)), none, some (.int (vx_i v6)), some (.int (vx_i v7)), some (.int (vx_i v8))]) (by decide +kernel) rfl ?_
      exact H
    · replace H := H.2 c5
      refine vx_iconst (n := 4) (q := 487) (by decide +kernel) ?_
      refine vx_goto (off := 5) (q := 490) (t := 492) (by decide +kernel) ?_
      refine vx_iload (n := 7) (q := 494) (by decide +kernel) rfl ?_
      refine vx_if0_le (off := 8) (q := 497) (t := 502) (by decide +kernel) k1 (fun _ => ?_) (fun c => absurd c (by omega))
      refine vx_iload_n (n := 2) (q := 503) (by decide +kernel) rfl ?_
      refine vx_iload_n (n := 1) (q := 504) (by decide +kernel) rfl ?_
      refine vx_lconst (n := 0) (m := 0) (q := 505) (by decide +kernel) ?_
      refine vx_callV (i := .invokevirtual 183) (how := 3) (cm := 27) (np := 5) (q := 508) (args := [.ref 625, .int (vx_i 4), .int (vx_i v2), .int (vx_i v1), .long (vx_l 0)]) (rest := []) (by decide +kernel) rfl rfl rfl (vx_w2 (w := 6) (ml := 6) rfl (by decide +kernel)) (vx_rcv (kd := 9) (vx_Tk hT (by decide +kernel)) (by decide +kernel)) H (fun h7 hs7 H => ?_)
      have hT7 := vx_Tsh hT hs7
      replace H := H hT7
      refine vx_iload_n (n := 3) (q := 509) (by decide +kernel) rfl ?_
      refine vx_iload (n := 7) (q := 511) (by decide +kernel) rfl ?_
      refine vx_if0_le (off := 7) (q := 514) (t := 518) (by decide +kernel) k1 (fun _ => ?_) (fun c => absurd c (by omega))
      refine vx_iconst (n := 0) (q := 519) (by decide +kernel) ?_
      refine vx_iadd (q := 520) (by decide +kernel) ?_
      refine vx_istore_n (n := 3) (q := 521) (lv' := [some (.ref 625), some (.int (vx_i v1)), some (.int (vx_i v2)), some (.int (vx_i (v3 + 0))), some (.long (vx_l v4)), none, some (.int (vx_i v6)), some (.int (vx_i v7)), some (.int (vx_i v8))]) (by decide +kernel) rfl ?_
      exact H
theorem vg_31_521 {d : Nat} {h : ve_H} {P : Int → ve_H → Prop} {v1 : Int} {v2 : Int} {v3 : Int} {v4 : Int} {v6 : Option Value} {v7 : Option Value} {v8 : Option Value} (hT : vx_T 625 672 h) (H : (vx_rI v3) ∧ P v3 h) : vx_W (d + 1) 31 521 [some (.ref 625), some (.int (vx_i v1)), some (.int (vx_i v2)), some (.int (vx_i v3)), some (.long (vx_l v4)), none, v6, v7, v8] [] h (vx_RI P) := by
  refine vx_iload_n (n := 3) (q := 522) (by decide +kernel) rfl ?_
  obtain ⟨k1, H⟩ := H
  refine vx_retI (q := 523) (by decide +kernel) k1 ?_
  exact H
-- RuleHouse$Tape.scan()V
theorem vg_194 {d : Nat} {h : ve_H} {P : ve_H → Prop}  (hT : vx_T 1 625 h) (H : (∀ h1, h1 = vx_sJ h 2 5 0 → vx_T 1 625 h1 → vx_W (d + 1) 194 9 [some (.ref 2), some (.int (vx_i 0)), some (.int (vx_i 0))] [] h1 (vx_RV P))) : vx_CV (d + 1) 194 [.ref 2] h P := by
  refine vx_enter (ml := 3) (by decide +kernel) ?_
  show vx_W _ _ 0 [some (.ref 2), none, none] [] h _
  refine vx_aload_n (n := 0) (q := 1) (by decide +kernel) rfl ?_
  refine vx_iconst (n := 0) (q := 2) (by decide +kernel) ?_
  refine vx_putI (idx := 30) (kd := 2) (s := 5) (fin := false) (q := 5) (by decide +kernel) (vx_Tk hT (by decide +kernel)) (fun h1 e1 => ?_)
  have hT1 := vx_TJ hT e1
  replace H := H h1 e1 hT1
  refine vx_iconst (n := 0) (q := 6) (by decide +kernel) ?_
  refine vx_istore_n (n := 1) (q := 7) (lv' := [some (.ref 2), some (.int (vx_i 0)), none]) (by decide +kernel) rfl ?_
  refine vx_iconst (n := 0) (q := 8) (by decide +kernel) ?_
  refine vx_istore_n (n := 2) (q := 9) (lv' := [some (.ref 2), some (.int (vx_i 0)), some (.int (vx_i 0))]) (by decide +kernel) rfl ?_
  exact H
theorem vg_194_9 {d : Nat} {h : ve_H} {P : ve_H → Prop} {v1 : Int} {v2 : Int} (hT : vx_T 1 625 h) (H : (vx_rI v2) ∧ ((600 ≤ v2 → vx_CV d 202 [.ref 2, .int (vx_i 0), .int (vx_i (vx_J h 2 4)), .long (vx_l 0)] h (fun h3 => vx_T 1 625 h3 → P h3)) ∧ (v2 < 600 → (vx_rI v1) ∧ (((vx_J h 2 4) ≤ v1 → vx_CV d 202 [.ref 2, .int (vx_i 0), .int (vx_i (vx_J h 2 4)), .long (vx_l 0)] h (fun h6 => vx_T 1 625 h6 → P h6)) ∧ (v1 < (vx_J h 2 4) → (0 ≤ v1 ∧ v1 < 600) ∧ (((vx_J h 3 v1.toNat) ≠ 32 → vx_CI d 195 [.ref 2, .int (vx_i v1)] h (fun r9 h9 => vx_T 1 625 h9 → vx_W (d + 1) 194 9 [some (.ref 2), some (.int (vx_i r9)), some (.int (vx_i (v2 + 1)))] [] h9 (vx_RV P))) ∧ ((vx_J h 3 v1.toNat) = 32 → vx_W (d + 1) 194 9 [some (.ref 2), some (.int (vx_i (v1 + 1))), some (.int (vx_i (v2 + 1)))] [] h (vx_RV P)))))))) : vx_W (d + 1) 194 9 [some (.ref 2), some (.int (vx_i v1)), some (.int (vx_i v2))] [] h (vx_RV P) := by
  refine vx_iload_n (n := 2) (q := 10) (by decide +kernel) rfl ?_
  refine vx_sipush (n := 600) (q := 13) (by decide +kernel) ?_
  obtain ⟨k1, H⟩ := H
  refine vx_icmp_ge (off := 40) (q := 16) (t := 53) (by decide +kernel) k1 (by decide) (fun c2 => ?_) (fun c2 => ?_)
  · replace H := H.1 c2
    refine vx_aload_n (n := 0) (q := 54) (by decide +kernel) rfl ?_
    refine vx_iconst (n := 0) (q := 55) (by decide +kernel) ?_
    refine vx_aload_n (n := 0) (q := 56) (by decide +kernel) rfl ?_
    refine vx_getI (idx := 26) (kd := 2) (s := 4) (fin := false) (q := 59) (by decide +kernel) (vx_Tk hT (by decide +kernel)) ?_
    refine vx_lconst (n := 0) (m := 0) (q := 60) (by decide +kernel) ?_
    refine vx_callV (i := .invokevirtual 37) (how := 3) (cm := 202) (np := 4) (q := 63) (args := [.ref 2, .int (vx_i 0), .int (vx_i (vx_J h 2 4)), .long (vx_l 0)]) (rest := []) (by decide +kernel) rfl rfl rfl (vx_w2 (w := 5) (ml := 5) rfl (by decide +kernel)) (vx_rcv (kd := 2) (vx_Tk hT (by decide +kernel)) (by decide +kernel)) H (fun h3 hs3 H => ?_)
    have hT3 := vx_Tsh hT hs3
    replace H := H hT3
    refine vx_retV (q := 64) (by decide +kernel) ?_
    exact H
  · replace H := H.2 c2
    refine vx_iload_n (n := 1) (q := 17) (by decide +kernel) rfl ?_
    refine vx_aload_n (n := 0) (q := 18) (by decide +kernel) rfl ?_
    refine vx_getI (idx := 26) (kd := 2) (s := 4) (fin := false) (q := 21) (by decide +kernel) (vx_Tk hT (by decide +kernel)) ?_
    obtain ⟨k4, H⟩ := H
    refine vx_icmp_ge (off := 32) (q := 24) (t := 53) (by decide +kernel) k4 (vx_rI_J h 2 4) (fun c5 => ?_) (fun c5 => ?_)
    · replace H := H.1 c5
      refine vx_aload_n (n := 0) (q := 54) (by decide +kernel) rfl ?_
      refine vx_iconst (n := 0) (q := 55) (by decide +kernel) ?_
      refine vx_aload_n (n := 0) (q := 56) (by decide +kernel) rfl ?_
      refine vx_getI (idx := 26) (kd := 2) (s := 4) (fin := false) (q := 59) (by decide +kernel) (vx_Tk hT (by decide +kernel)) ?_
      refine vx_lconst (n := 0) (m := 0) (q := 60) (by decide +kernel) ?_
      refine vx_callV (i := .invokevirtual 37) (how := 3) (cm := 202) (np := 4) (q := 63) (args := [.ref 2, .int (vx_i 0), .int (vx_i (vx_J h 2 4)), .long (vx_l 0)]) (rest := []) (by decide +kernel) rfl rfl rfl (vx_w2 (w := 5) (ml := 5) rfl (by decide +kernel)) (vx_rcv (kd := 2) (vx_Tk hT (by decide +kernel)) (by decide +kernel)) H (fun h6 hs6 H => ?_)
      have hT6 := vx_Tsh hT hs6
      replace H := H hT6
      refine vx_retV (q := 64) (by decide +kernel) ?_
      exact H
    · replace H := H.2 c5
      refine vx_aload_n (n := 0) (q := 25) (by decide +kernel) rfl ?_
      refine vx_getR (b := 3) (idx := 9) (kd := 2) (s := 0) (fin := true) (q := 28) (by decide +kernel) (vx_Tk hT (by decide +kernel)) (vx_Tr hT (kd := 2) (by decide +kernel) (by decide +kernel) (by decide +kernel)) ?_
      refine vx_iload_n (n := 1) (q := 29) (by decide +kernel) rfl ?_
      obtain ⟨k7, H⟩ := H
      refine vx_baload (z := 600) (q := 30) (by decide +kernel) (vx_Tk hT (by decide +kernel)) (vx_Tz hT (by decide +kernel)) (vx_ix k7 (by decide)) ?_
      refine vx_bipush (n := 32) (q := 32) (by decide +kernel) ?_
      refine vx_icmp_ne (off := 9) (q := 35) (t := 41) (by decide +kernel) (vx_rI_J h 3 v1.toNat) (by decide) (fun c8 => ?_) (fun c8 => ?_)
      · replace H := H.1 c8
        refine vx_aload_n (n := 0) (q := 42) (by decide +kernel) rfl ?_
        refine vx_iload_n (n := 1) (q := 43) (by decide +kernel) rfl ?_
        refine vx_callI (i := .invokevirtual 33) (how := 3) (cm := 195) (np := 2) (q := 46) (args := [.ref 2, .int (vx_i v1)]) (rest := []) (by decide +kernel) rfl rfl rfl (vx_w2 (w := 2) (ml := 5) rfl (by decide +kernel)) (vx_rcv (kd := 2) (vx_Tk hT (by decide +kernel)) (by decide +kernel)) H (fun r9 h9 hr9 hs9 H => ?_)
        have hT9 := vx_Tsh hT hs9
        replace H := H hT9
        refine vx_istore_n (n := 1) (q := 47) (lv' := [some (.ref 2), some (.int (vx_i r9)), some (.int (vx_i v2))]) (by decide +kernel) rfl ?_
        refine vx_iinc (n := 2) (m := 1) (x := v2) (q := 50) (lv' := [some (.ref 2), some (.int (vx_i r9)), some (.int (vx_i (v2 + 1)))]) (by decide +kernel) rfl rfl ?_
        refine vx_goto (off := (-41)) (q := 53) (t := 9) (by decide +kernel) ?_
        exact H
      · replace H := H.2 c8
        refine vx_iinc (n := 1) (m := 1) (x := v1) (q := 38) (lv' := [some (.ref 2), some (.int (vx_i (v1 + 1))), some (.int (vx_i v2))]) (by decide +kernel) rfl rfl ?_
        refine vx_goto (off := 9) (q := 41) (t := 47) (by decide +kernel) ?_
        refine vx_iinc (n := 2) (m := 1) (x := v2) (q := 50) (lv' := [some (.ref 2), some (.int (vx_i (v1 + 1))), some (.int (vx_i (v2 + 1)))]) (by decide +kernel) rfl rfl ?_
        refine vx_goto (off := (-41)) (q := 53) (t := 9) (by decide +kernel) ?_
        exact H
-- RuleHouse$Tape.scanToken(I)I
theorem vg_195 {d : Nat} {h : ve_H} {P : Int → ve_H → Prop} {x1 : Int} (hT : vx_T 1 625 h) (H : (0 ≤ x1 ∧ x1 < 600) ∧ vx_CI d 206 [.int (vx_i (vx_J h 3 x1.toNat))] h (fun r2 h2 => vx_T 1 625 h2 → ((r2 = 0 → vx_CI d 207 [.int (vx_i (vx_J h 3 x1.toNat))] h2 (fun r4 h4 => vx_T 1 625 h4 → ((r4 = 0 → vx_CI d 208 [.int (vx_i (vx_J h 3 x1.toNat))] h4 (fun r6 h6 => vx_T 1 625 h6 → ((r6 = 0 → (vx_rI (x1 + 1)) ∧ (((vx_J h6 2 4) ≤ (x1 + 1) → vx_CI d 205 [.int (vx_i (vx_J h 3 x1.toNat))] h6 (fun r10 h10 => vx_T 1 625 h10 → ((r10 ≠ 0 → vx_CV d 202 [.ref 2, .int (vx_i (vx_J h 3 x1.toNat)), .int (vx_i x1), .long (vx_l 0)] h10 (fun h12 => vx_T 1 625 h12 → P (x1 + 1) h12)) ∧ (r10 = 0 → vx_CI d 198 [.ref 2, .int (vx_i x1)] h10 (fun r13 h13 => vx_T 1 625 h13 → P r13 h13))))) ∧ ((x1 + 1) < (vx_J h6 2 4) → (0 ≤ (x1 + 1) ∧ (x1 + 1) < 600) ∧ vx_CI d 204 [.int (vx_i (vx_J h 3 x1.toNat)), .int (vx_i (vx_J h6 3 (x1 + 1).toNat))] h6 (fun r15 h15 => vx_T 1 625 h15 → ((r15 = ((-1)) → vx_CI d 205 [.int (vx_i (vx_J h 3 x1.toNat))] h15 (fun r17 h17 => vx_T 1 625 h17 → ((r17 ≠ 0 → vx_CV d 202 [.ref 2, .int (vx_i (vx_J h 3 x1.toNat)), .int (vx_i x1), .long (vx_l 0)] h17 (fun h19 => vx_T 1 625 h19 → P (x1 + 1) h19)) ∧ (r17 = 0 → vx_CI d 198 [.ref 2, .int (vx_i x1)] h17 (fun r20 h20 => vx_T 1 625 h20 → P r20 h20))))) ∧ (r15 ≠ ((-1)) → vx_CV d 202 [.ref 2, .int (vx_i r15), .int (vx_i x1), .long (vx_l 0)] h15 (fun h21 => vx_T 1 625 h21 → (vx_rI (x1 + 2)) ∧ P (x1 + 2) h21))))))) ∧ (r6 ≠ 0 → vx_CI d 197 [.ref 2, .int (vx_i x1)] h6 (fun r23 h23 => vx_T 1 625 h23 → (vx_rI (r23 - x1)) ∧ (((r23 - x1) ≤ 9 → vx_CI d 201 [.ref 2, .int (vx_i x1), .int (vx_i r23)] h23 (fun r26 h26 => vx_T 1 625 h26 → P r26 h26)) ∧ (9 < (r23 - x1) → vx_CI d 198 [.ref 2, .int (vx_i x1)] h23 (fun r27 h27 => vx_T 1 625 h27 → P r27 h27)))))))) ∧ (r4 ≠ 0 → vx_CI d 196 [.ref 2, .int (vx_i x1), .int (vx_i 1)] h4 (fun r28 h28 => vx_T 1 625 h28 → (vx_rI (r28 - x1)) ∧ (((r28 - x1) ≤ 4 → vx_CI d 200 [.ref 2, .int (vx_i 3), .int (vx_i x1), .int (vx_i r28)] h28 (fun r31 h31 => vx_T 1 625 h31 → P r31 h31)) ∧ (4 < (r28 - x1) → vx_CI d 198 [.ref 2, .int (vx_i x1)] h28 (fun r32 h32 => vx_T 1 625 h32 → P r32 h32)))))))) ∧ (r2 ≠ 0 → vx_CI d 196 [.ref 2, .int (vx_i x1), .int (vx_i 0)] h2 (fun r33 h33 => vx_T 1 625 h33 → (vx_rI (r33 - x1)) ∧ (((r33 - x1) ≤ 6 → vx_CI d 199 [.ref 2, .int (vx_i x1), .int (vx_i r33)] h33 (fun r36 h36 => vx_T 1 625 h36 → P r36 h36)) ∧ (6 < (r33 - x1) → vx_CI d 198 [.ref 2, .int (vx_i x1)] h33 (fun r37 h37 => vx_T 1 625 h37 → P r37 h37)))))))) : vx_CI (d + 1) 195 [.ref 2, .int (vx_i x1)] h P := by
  refine vx_enter (ml := 5) (by decide +kernel) ?_
  show vx_W _ _ 0 [some (.ref 2), some (.int (vx_i x1)), none, none, none] [] h _
  refine vx_aload_n (n := 0) (q := 1) (by decide +kernel) rfl ?_
  refine vx_getR (b := 3) (idx := 9) (kd := 2) (s := 0) (fin := true) (q := 4) (by decide +kernel) (vx_Tk hT (by decide +kernel)) (vx_Tr hT (kd := 2) (by decide +kernel) (by decide +kernel) (by decide +kernel)) ?_
  refine vx_iload_n (n := 1) (q := 5) (by decide +kernel) rfl ?_
  obtain ⟨k1, H⟩ := H
  refine vx_baload (z := 600) (q := 6) (by decide +kernel) (vx_Tk hT (by decide +kernel)) (vx_Tz hT (by decide +kernel)) (vx_ix k1 (by decide)) ?_
  refine vx_istore_n (n := 2) (q := 7) (lv' := [some (.ref 2), some (.int (vx_i x1)), some (.int (vx_i (vx_J h 3 x1.toNat))), none, none]) (by decide +kernel) rfl ?_
  refine vx_iload_n (n := 2) (q := 8) (by decide +kernel) rfl ?_
  refine vx_callI (i := .invokestatic 41) (how := 4) (cm := 206) (np := 1) (q := 11) (args := [.int (vx_i (vx_J h 3 x1.toNat))]) (rest := []) (by decide +kernel) rfl rfl rfl (vx_w2 (w := 1) (ml := 1) rfl (by decide +kernel)) rfl H (fun r2 h2 hr2 hs2 H => ?_)
  have hT2 := vx_Tsh hT hs2
  replace H := H hT2
  refine vx_if0_eq (off := 33) (q := 14) (t := 44) (by decide +kernel) hr2 (fun c3 => ?_) (fun c3 => ?_)
  · replace H := H.1 c3
    refine vx_iload_n (n := 2) (q := 45) (by decide +kernel) rfl ?_
    refine vx_callI (i := .invokestatic 56) (how := 4) (cm := 207) (np := 1) (q := 48) (args := [.int (vx_i (vx_J h 3 x1.toNat))]) (rest := []) (by decide +kernel) rfl rfl rfl (vx_w2 (w := 1) (ml := 1) rfl (by decide +kernel)) rfl H (fun r4 h4 hr4 hs4 H => ?_)
    have hT4 := vx_Tsh hT2 hs4
    replace H := H hT4
    refine vx_if0_eq (off := 33) (q := 51) (t := 81) (by decide +kernel) hr4 (fun c5 => ?_) (fun c5 => ?_)
    · replace H := H.1 c5
      refine vx_iload_n (n := 2) (q := 82) (by decide +kernel) rfl ?_
      refine vx_callI (i := .invokestatic 63) (how := 4) (cm := 208) (np := 1) (q := 85) (args := [.int (vx_i (vx_J h 3 x1.toNat))]) (rest := []) (by decide +kernel) rfl rfl rfl (vx_w2 (w := 1) (ml := 1) rfl (by decide +kernel)) rfl H (fun r6 h6 hr6 hs6 H => ?_)
      have hT6 := vx_Tsh hT4 hs6
      replace H := H hT6
      refine vx_if0_eq (off := 32) (q := 88) (t := 117) (by decide +kernel) hr6 (fun c7 => ?_) (fun c7 => ?_)
      · replace H := H.1 c7
        refine vx_iload_n (n := 1) (q := 118) (by decide +kernel) rfl ?_
        refine vx_iconst (n := 1) (q := 119) (by decide +kernel) ?_
        refine vx_iadd (q := 120) (by decide +kernel) ?_
        refine vx_aload_n (n := 0) (q := 121) (by decide +kernel) rfl ?_
        refine vx_getI (idx := 26) (kd := 2) (s := 4) (fin := false) (q := 124) (by decide +kernel) (vx_Tk hT6 (by decide +kernel)) ?_
        obtain ⟨k8, H⟩ := H
        refine vx_icmp_ge (off := 18) (q := 127) (t := 142) (by decide +kernel) k8 (vx_rI_J h6 2 4) (fun c9 => ?_) (fun c9 => ?_)
        · replace H := H.1 c9
          refine vx_iconst (n := (-1)) (q := 143) (by decide +kernel) ?_
          refine vx_istore (n := 4) (q := 145) (lv' := [some (.ref 2), some (.int (vx_i x1)), some (.int (vx_i (vx_J h 3 x1.toNat))), none, some (.int (vx_i ((-1))))]) (by decide +kernel) rfl ?_
          refine vx_iload (n := 4) (q := 147) (by decide +kernel) rfl ?_
          refine vx_iconst (n := (-1)) (q := 148) (by decide +kernel) ?_
          refine vx_icmp_eq (off := 15) (q := 151) (t := 163) (by decide +kernel) (by decide) (by decide) (fun _ => ?_) (fun c => absurd c (by decide))
          refine vx_iload_n (n := 2) (q := 164) (by decide +kernel) rfl ?_
          refine vx_callI (i := .invokestatic 75) (how := 4) (cm := 205) (np := 1) (q := 167) (args := [.int (vx_i (vx_J h 3 x1.toNat))]) (rest := []) (by decide +kernel) rfl rfl rfl (vx_w2 (w := 1) (ml := 1) rfl (by decide +kernel)) rfl H (fun r10 h10 hr10 hs10 H => ?_)
          have hT10 := vx_Tsh hT6 hs10
          replace H := H hT10
          refine vx_if0_ne (off := 9) (q := 170) (t := 176) (by decide +kernel) hr10 (fun c11 => ?_) (fun c11 => ?_)
          · replace H := H.1 c11
            refine vx_aload_n (n := 0) (q := 177) (by decide +kernel) rfl ?_
            refine vx_iload_n (n := 2) (q := 178) (by decide +kernel) rfl ?_
            refine vx_iload_n (n := 1) (q := 179) (by decide +kernel) rfl ?_
            refine vx_lconst (n := 0) (m := 0) (q := 180) (by decide +kernel) ?_
            refine vx_callV (i := .invokevirtual 37) (how := 3) (cm := 202) (np := 4) (q := 183) (args := [.ref 2, .int (vx_i (vx_J h 3 x1.toNat)), .int (vx_i x1), .long (vx_l 0)]) (rest := []) (by decide +kernel) rfl rfl rfl (vx_w2 (w := 5) (ml := 5) rfl (by decide +kernel)) (vx_rcv (kd := 2) (vx_Tk hT10 (by decide +kernel)) (by decide +kernel)) H (fun h12 hs12 H => ?_)
            have hT12 := vx_Tsh hT10 hs12
            replace H := H hT12
            refine vx_iload_n (n := 1) (q := 184) (by decide +kernel) rfl ?_
            refine vx_iconst (n := 1) (q := 185) (by decide +kernel) ?_
            refine vx_iadd (q := 186) (by decide +kernel) ?_
            refine vx_retI (q := 187) (by decide +kernel) k8 ?_
            exact H
          · replace H := H.2 c11
            refine vx_aload_n (n := 0) (q := 171) (by decide +kernel) rfl ?_
            refine vx_iload_n (n := 1) (q := 172) (by decide +kernel) rfl ?_
            refine vx_callI (i := .invokevirtual 49) (how := 3) (cm := 198) (np := 2) (q := 175) (args := [.ref 2, .int (vx_i x1)]) (rest := []) (by decide +kernel) rfl rfl rfl (vx_w2 (w := 2) (ml := 2) rfl (by decide +kernel)) (vx_rcv (kd := 2) (vx_Tk hT10 (by decide +kernel)) (by decide +kernel)) H (fun r13 h13 hr13 hs13 H => ?_)
            have hT13 := vx_Tsh hT10 hs13
            replace H := H hT13
            refine vx_retI (q := 176) (by decide +kernel) hr13 ?_
            exact H
        · replace H := H.2 c9
          refine vx_iload_n (n := 2) (q := 128) (by decide +kernel) rfl ?_
          refine vx_aload_n (n := 0) (q := 129) (by decide +kernel) rfl ?_
          refine vx_getR (b := 3) (idx := 9) (kd := 2) (s := 0) (fin := true) (q := 132) (by decide +kernel) (vx_Tk hT6 (by decide +kernel)) (vx_Tr hT6 (kd := 2) (by decide +kernel) (by decide +kernel) (by decide +kernel)) ?_
          refine vx_iload_n (n := 1) (q := 133) (by decide +kernel) rfl ?_
          refine vx_iconst (n := 1) (q := 134) (by decide +kernel) ?_
          refine vx_iadd (q := 135) (by decide +kernel) ?_
          obtain ⟨k14, H⟩ := H
          refine vx_baload (z := 600) (q := 136) (by decide +kernel) (vx_Tk hT6 (by decide +kernel)) (vx_Tz hT6 (by decide +kernel)) (vx_ix k14 (by decide)) ?_
          refine vx_callI (i := .invokestatic 72) (how := 4) (cm := 204) (np := 2) (q := 139) (args := [.int (vx_i (vx_J h 3 x1.toNat)), .int (vx_i (vx_J h6 3 (x1 + 1).toNat))]) (rest := []) (by decide +kernel) rfl rfl rfl (vx_w2 (w := 2) (ml := 2) rfl (by decide +kernel)) rfl H (fun r15 h15 hr15 hs15 H => ?_)
          have hT15 := vx_Tsh hT6 hs15
          replace H := H hT15
          refine vx_goto (off := 4) (q := 142) (t := 143) (by decide +kernel) ?_
          refine vx_istore (n := 4) (q := 145) (lv' := [some (.ref 2), some (.int (vx_i x1)), some (.int (vx_i (vx_J h 3 x1.toNat))), none, some (.int (vx_i r15))]) (by decide +kernel) rfl ?_
          refine vx_iload (n := 4) (q := 147) (by decide +kernel) rfl ?_
          refine vx_iconst (n := (-1)) (q := 148) (by decide +kernel) ?_
          refine vx_icmp_eq (off := 15) (q := 151) (t := 163) (by decide +kernel) hr15 (by decide) (fun c16 => ?_) (fun c16 => ?_)
          · replace H := H.1 c16
            refine vx_iload_n (n := 2) (q := 164) (by decide +kernel) rfl ?_
            refine vx_callI (i := .invokestatic 75) (how := 4) (cm := 205) (np := 1) (q := 167) (args := [.int (vx_i (vx_J h 3 x1.toNat))]) (rest := []) (by decide +kernel) rfl rfl rfl (vx_w2 (w := 1) (ml := 1) rfl (by decide +kernel)) rfl H (fun r17 h17 hr17 hs17 H => ?_)
            have hT17 := vx_Tsh hT15 hs17
            replace H := H hT17
            refine vx_if0_ne (off := 9) (q := 170) (t := 176) (by decide +kernel) hr17 (fun c18 => ?_) (fun c18 => ?_)
            · replace H := H.1 c18
              refine vx_aload_n (n := 0) (q := 177) (by decide +kernel) rfl ?_
              refine vx_iload_n (n := 2) (q := 178) (by decide +kernel) rfl ?_
              refine vx_iload_n (n := 1) (q := 179) (by decide +kernel) rfl ?_
              refine vx_lconst (n := 0) (m := 0) (q := 180) (by decide +kernel) ?_
              refine vx_callV (i := .invokevirtual 37) (how := 3) (cm := 202) (np := 4) (q := 183) (args := [.ref 2, .int (vx_i (vx_J h 3 x1.toNat)), .int (vx_i x1), .long (vx_l 0)]) (rest := []) (by decide +kernel) rfl rfl rfl (vx_w2 (w := 5) (ml := 5) rfl (by decide +kernel)) (vx_rcv (kd := 2) (vx_Tk hT17 (by decide +kernel)) (by decide +kernel)) H (fun h19 hs19 H => ?_)
              have hT19 := vx_Tsh hT17 hs19
              replace H := H hT19
              refine vx_iload_n (n := 1) (q := 184) (by decide +kernel) rfl ?_
              refine vx_iconst (n := 1) (q := 185) (by decide +kernel) ?_
              refine vx_iadd (q := 186) (by decide +kernel) ?_
              refine vx_retI (q := 187) (by decide +kernel) k8 ?_
              exact H
            · replace H := H.2 c18
              refine vx_aload_n (n := 0) (q := 171) (by decide +kernel) rfl ?_
              refine vx_iload_n (n := 1) (q := 172) (by decide +kernel) rfl ?_
              refine vx_callI (i := .invokevirtual 49) (how := 3) (cm := 198) (np := 2) (q := 175) (args := [.ref 2, .int (vx_i x1)]) (rest := []) (by decide +kernel) rfl rfl rfl (vx_w2 (w := 2) (ml := 2) rfl (by decide +kernel)) (vx_rcv (kd := 2) (vx_Tk hT17 (by decide +kernel)) (by decide +kernel)) H (fun r20 h20 hr20 hs20 H => ?_)
              have hT20 := vx_Tsh hT17 hs20
              replace H := H hT20
              refine vx_retI (q := 176) (by decide +kernel) hr20 ?_
              exact H
          · replace H := H.2 c16
            refine vx_aload_n (n := 0) (q := 152) (by decide +kernel) rfl ?_
            refine vx_iload (n := 4) (q := 154) (by decide +kernel) rfl ?_
            refine vx_iload_n (n := 1) (q := 155) (by decide +kernel) rfl ?_
            refine vx_lconst (n := 0) (m := 0) (q := 156) (by decide +kernel) ?_
            refine vx_callV (i := .invokevirtual 37) (how := 3) (cm := 202) (np := 4) (q := 159) (args := [.ref 2, .int (vx_i r15), .int (vx_i x1), .long (vx_l 0)]) (rest := []) (by decide +kernel) rfl rfl rfl (vx_w2 (w := 5) (ml := 5) rfl (by decide +kernel)) (vx_rcv (kd := 2) (vx_Tk hT15 (by decide +kernel)) (by decide +kernel)) H (fun h21 hs21 H => ?_)
            have hT21 := vx_Tsh hT15 hs21
            replace H := H hT21
            refine vx_iload_n (n := 1) (q := 160) (by decide +kernel) rfl ?_
            refine vx_iconst (n := 2) (q := 161) (by decide +kernel) ?_
            refine vx_iadd (q := 162) (by decide +kernel) ?_
            obtain ⟨k22, H⟩ := H
            refine vx_retI (q := 163) (by decide +kernel) k22 ?_
            exact H
      · replace H := H.2 c7
        refine vx_aload_n (n := 0) (q := 89) (by decide +kernel) rfl ?_
        refine vx_iload_n (n := 1) (q := 90) (by decide +kernel) rfl ?_
        refine vx_callI (i := .invokevirtual 66) (how := 3) (cm := 197) (np := 2) (q := 93) (args := [.ref 2, .int (vx_i x1)]) (rest := []) (by decide +kernel) rfl rfl rfl (vx_w2 (w := 2) (ml := 3) rfl (by decide +kernel)) (vx_rcv (kd := 2) (vx_Tk hT6 (by decide +kernel)) (by decide +kernel)) H (fun r23 h23 hr23 hs23 H => ?_)
        have hT23 := vx_Tsh hT6 hs23
        replace H := H hT23
        refine vx_istore_n (n := 3) (q := 94) (lv' := [some (.ref 2), some (.int (vx_i x1)), some (.int (vx_i (vx_J h 3 x1.toNat))), some (.int (vx_i r23)), none]) (by decide +kernel) rfl ?_
        refine vx_iload_n (n := 3) (q := 95) (by decide +kernel) rfl ?_
        refine vx_iload_n (n := 1) (q := 96) (by decide +kernel) rfl ?_
        refine vx_isub (q := 97) (by decide +kernel) ?_
        refine vx_bipush (n := 9) (q := 99) (by decide +kernel) ?_
        obtain ⟨k24, H⟩ := H
        refine vx_icmp_le (off := 11) (q := 102) (t := 110) (by decide +kernel) k24 (by decide) (fun c25 => ?_) (fun c25 => ?_)
        · replace H := H.1 c25
          refine vx_aload_n (n := 0) (q := 111) (by decide +kernel) rfl ?_
          refine vx_iload_n (n := 1) (q := 112) (by decide +kernel) rfl ?_
          refine vx_iload_n (n := 3) (q := 113) (by decide +kernel) rfl ?_
          refine vx_callI (i := .invokevirtual 69) (how := 3) (cm := 201) (np := 3) (q := 116) (args := [.ref 2, .int (vx_i x1), .int (vx_i r23)]) (rest := []) (by decide +kernel) rfl rfl rfl (vx_w2 (w := 3) (ml := 6) rfl (by decide +kernel)) (vx_rcv (kd := 2) (vx_Tk hT23 (by decide +kernel)) (by decide +kernel)) H (fun r26 h26 hr26 hs26 H => ?_)
          have hT26 := vx_Tsh hT23 hs26
          replace H := H hT26
          refine vx_retI (q := 117) (by decide +kernel) hr26 ?_
          exact H
        · replace H := H.2 c25
          refine vx_aload_n (n := 0) (q := 103) (by decide +kernel) rfl ?_
          refine vx_iload_n (n := 1) (q := 104) (by decide +kernel) rfl ?_
          refine vx_callI (i := .invokevirtual 49) (how := 3) (cm := 198) (np := 2) (q := 107) (args := [.ref 2, .int (vx_i x1)]) (rest := []) (by decide +kernel) rfl rfl rfl (vx_w2 (w := 2) (ml := 2) rfl (by decide +kernel)) (vx_rcv (kd := 2) (vx_Tk hT23 (by decide +kernel)) (by decide +kernel)) H (fun r27 h27 hr27 hs27 H => ?_)
          have hT27 := vx_Tsh hT23 hs27
          replace H := H hT27
          refine vx_goto (off := 9) (q := 110) (t := 116) (by decide +kernel) ?_
          refine vx_retI (q := 117) (by decide +kernel) hr27 ?_
          exact H
    · replace H := H.2 c5
      refine vx_aload_n (n := 0) (q := 52) (by decide +kernel) rfl ?_
      refine vx_iload_n (n := 1) (q := 53) (by decide +kernel) rfl ?_
      refine vx_iconst (n := 1) (q := 54) (by decide +kernel) ?_
      refine vx_callI (i := .invokevirtual 45) (how := 3) (cm := 196) (np := 3) (q := 57) (args := [.ref 2, .int (vx_i x1), .int (vx_i 1)]) (rest := []) (by decide +kernel) rfl rfl rfl (vx_w2 (w := 3) (ml := 4) rfl (by decide +kernel)) (vx_rcv (kd := 2) (vx_Tk hT4 (by decide +kernel)) (by decide +kernel)) H (fun r28 h28 hr28 hs28 H => ?_)
      have hT28 := vx_Tsh hT4 hs28
      replace H := H hT28
      refine vx_istore_n (n := 3) (q := 58) (lv' := [some (.ref 2), some (.int (vx_i x1)), some (.int (vx_i (vx_J h 3 x1.toNat))), some (.int (vx_i r28)), none]) (by decide +kernel) rfl ?_
      refine vx_iload_n (n := 3) (q := 59) (by decide +kernel) rfl ?_
      refine vx_iload_n (n := 1) (q := 60) (by decide +kernel) rfl ?_
      refine vx_isub (q := 61) (by decide +kernel) ?_
      refine vx_iconst (n := 4) (q := 62) (by decide +kernel) ?_
      obtain ⟨k29, H⟩ := H
      refine vx_icmp_le (off := 11) (q := 65) (t := 73) (by decide +kernel) k29 (by decide) (fun c30 => ?_) (fun c30 => ?_)
      · replace H := H.1 c30
        refine vx_aload_n (n := 0) (q := 74) (by decide +kernel) rfl ?_
        refine vx_iconst (n := 3) (q := 75) (by decide +kernel) ?_
        refine vx_iload_n (n := 1) (q := 76) (by decide +kernel) rfl ?_
        refine vx_iload_n (n := 3) (q := 77) (by decide +kernel) rfl ?_
        refine vx_callI (i := .invokevirtual 59) (how := 3) (cm := 200) (np := 4) (q := 80) (args := [.ref 2, .int (vx_i 3), .int (vx_i x1), .int (vx_i r28)]) (rest := []) (by decide +kernel) rfl rfl rfl (vx_w2 (w := 4) (ml := 7) rfl (by decide +kernel)) (vx_rcv (kd := 2) (vx_Tk hT28 (by decide +kernel)) (by decide +kernel)) H (fun r31 h31 hr31 hs31 H => ?_)
        have hT31 := vx_Tsh hT28 hs31
        replace H := H hT31
        refine vx_retI (q := 81) (by decide +kernel) hr31 ?_
        exact H
      · replace H := H.2 c30
        refine vx_aload_n (n := 0) (q := 66) (by decide +kernel) rfl ?_
        refine vx_iload_n (n := 1) (q := 67) (by decide +kernel) rfl ?_
        refine vx_callI (i := .invokevirtual 49) (how := 3) (cm := 198) (np := 2) (q := 70) (args := [.ref 2, .int (vx_i x1)]) (rest := []) (by decide +kernel) rfl rfl rfl (vx_w2 (w := 2) (ml := 2) rfl (by decide +kernel)) (vx_rcv (kd := 2) (vx_Tk hT28 (by decide +kernel)) (by decide +kernel)) H (fun r32 h32 hr32 hs32 H => ?_)
        have hT32 := vx_Tsh hT28 hs32
        replace H := H hT32
        refine vx_goto (off := 10) (q := 73) (t := 80) (by decide +kernel) ?_
        refine vx_retI (q := 81) (by decide +kernel) hr32 ?_
        exact H
  · replace H := H.2 c3
    refine vx_aload_n (n := 0) (q := 15) (by decide +kernel) rfl ?_
    refine vx_iload_n (n := 1) (q := 16) (by decide +kernel) rfl ?_
    refine vx_iconst (n := 0) (q := 17) (by decide +kernel) ?_
    refine vx_callI (i := .invokevirtual 45) (how := 3) (cm := 196) (np := 3) (q := 20) (args := [.ref 2, .int (vx_i x1), .int (vx_i 0)]) (rest := []) (by decide +kernel) rfl rfl rfl (vx_w2 (w := 3) (ml := 4) rfl (by decide +kernel)) (vx_rcv (kd := 2) (vx_Tk hT2 (by decide +kernel)) (by decide +kernel)) H (fun r33 h33 hr33 hs33 H => ?_)
    have hT33 := vx_Tsh hT2 hs33
    replace H := H hT33
    refine vx_istore_n (n := 3) (q := 21) (lv' := [some (.ref 2), some (.int (vx_i x1)), some (.int (vx_i (vx_J h 3 x1.toNat))), some (.int (vx_i r33)), none]) (by decide +kernel) rfl ?_
    refine vx_iload_n (n := 3) (q := 22) (by decide +kernel) rfl ?_
    refine vx_iload_n (n := 1) (q := 23) (by decide +kernel) rfl ?_
    refine vx_isub (q := 24) (by decide +kernel) ?_
    refine vx_bipush (n := 6) (q := 26) (by decide +kernel) ?_
    obtain ⟨k34, H⟩ := H
    refine vx_icmp_le (off := 11) (q := 29) (t := 37) (by decide +kernel) k34 (by decide) (fun c35 => ?_) (fun c35 => ?_)
    · replace H := H.1 c35
      refine vx_aload_n (n := 0) (q := 38) (by decide +kernel) rfl ?_
      refine vx_iload_n (n := 1) (q := 39) (by decide +kernel) rfl ?_
      refine vx_iload_n (n := 3) (q := 40) (by decide +kernel) rfl ?_
      refine vx_callI (i := .invokevirtual 52) (how := 3) (cm := 199) (np := 3) (q := 43) (args := [.ref 2, .int (vx_i x1), .int (vx_i r33)]) (rest := []) (by decide +kernel) rfl rfl rfl (vx_w2 (w := 3) (ml := 4) rfl (by decide +kernel)) (vx_rcv (kd := 2) (vx_Tk hT33 (by decide +kernel)) (by decide +kernel)) H (fun r36 h36 hr36 hs36 H => ?_)
      have hT36 := vx_Tsh hT33 hs36
      replace H := H hT36
      refine vx_retI (q := 44) (by decide +kernel) hr36 ?_
      exact H
    · replace H := H.2 c35
      refine vx_aload_n (n := 0) (q := 30) (by decide +kernel) rfl ?_
      refine vx_iload_n (n := 1) (q := 31) (by decide +kernel) rfl ?_
      refine vx_callI (i := .invokevirtual 49) (how := 3) (cm := 198) (np := 2) (q := 34) (args := [.ref 2, .int (vx_i x1)]) (rest := []) (by decide +kernel) rfl rfl rfl (vx_w2 (w := 2) (ml := 2) rfl (by decide +kernel)) (vx_rcv (kd := 2) (vx_Tk hT33 (by decide +kernel)) (by decide +kernel)) H (fun r37 h37 hr37 hs37 H => ?_)
      have hT37 := vx_Tsh hT33 hs37
      replace H := H hT37
      refine vx_goto (off := 9) (q := 37) (t := 43) (by decide +kernel) ?_
      refine vx_retI (q := 44) (by decide +kernel) hr37 ?_
      exact H
-- RuleHouse$Tape.endOfWord(IZ)I
theorem vg_196 {d : Nat} {h : ve_H} {P : Int → ve_H → Prop} {x1 : Int} {x2 : Int} (hT : vx_T 1 625 h) (H : vx_W (d + 1) 196 2 [some (.ref 2), some (.int (vx_i x1)), some (.int (vx_i x2)), some (.int (vx_i x1))] [] h (vx_RI P)) : vx_CI (d + 1) 196 [.ref 2, .int (vx_i x1), .int (vx_i x2)] h P := by
  refine vx_enter (ml := 4) (by decide +kernel) ?_
  show vx_W _ _ 0 [some (.ref 2), some (.int (vx_i x1)), some (.int (vx_i x2)), none] [] h _
  refine vx_iload_n (n := 1) (q := 1) (by decide +kernel) rfl ?_
  refine vx_istore_n (n := 3) (q := 2) (lv' := [some (.ref 2), some (.int (vx_i x1)), some (.int (vx_i x2)), some (.int (vx_i x1))]) (by decide +kernel) rfl ?_
  exact H
theorem vg_196_2 {d : Nat} {h : ve_H} {P : Int → ve_H → Prop} {v1 : Int} {v2 : Int} {v3 : Int} (hT : vx_T 1 625 h) (H : (vx_rI v3) ∧ (((vx_J h 2 4) ≤ v3 → P v3 h) ∧ (v3 < (vx_J h 2 4) → (0 ≤ v3 ∧ v3 < 600) ∧ vx_CI d 206 [.int (vx_i (vx_J h 3 v3.toNat))] h (fun r4 h4 => vx_T 1 625 h4 → ((r4 ≠ 0 → vx_W (d + 1) 196 2 [some (.ref 2), some (.int (vx_i v1)), some (.int (vx_i v2)), some (.int (vx_i (v3 + 1)))] [] h4 (vx_RI P)) ∧ (r4 = 0 → (0 ≤ v3 ∧ v3 < 600) ∧ vx_CI d 208 [.int (vx_i (vx_J h4 3 v3.toNat))] h4 (fun r7 h7 => vx_T 1 625 h7 → ((r7 ≠ 0 → vx_W (d + 1) 196 2 [some (.ref 2), some (.int (vx_i v1)), some (.int (vx_i v2)), some (.int (vx_i (v3 + 1)))] [] h7 (vx_RI P)) ∧ (r7 = 0 → (vx_rI v2) ∧ ((v2 = 0 → P v3 h7) ∧ (v2 ≠ 0 → (0 ≤ v3 ∧ v3 < 600) ∧ vx_CI d 207 [.int (vx_i (vx_J h7 3 v3.toNat))] h7 (fun r12 h12 => vx_T 1 625 h12 → ((r12 = 0 → P v3 h12) ∧ (r12 ≠ 0 → vx_W (d + 1) 196 2 [some (.ref 2), some (.int (vx_i v1)), some (.int (vx_i v2)), some (.int (vx_i (v3 + 1)))] [] h12 (vx_RI P))))))))))))))) : vx_W (d + 1) 196 2 [some (.ref 2), some (.int (vx_i v1)), some (.int (vx_i v2)), some (.int (vx_i v3))] [] h (vx_RI P) := by
  refine vx_iload_n (n := 3) (q := 3) (by decide +kernel) rfl ?_
  refine vx_aload_n (n := 0) (q := 4) (by decide +kernel) rfl ?_
  refine vx_getI (idx := 26) (kd := 2) (s := 4) (fin := false) (q := 7) (by decide +kernel) (vx_Tk hT (by decide +kernel)) ?_
  obtain ⟨k1, H⟩ := H
  refine vx_icmp_ge (off := 49) (q := 10) (t := 56) (by decide +kernel) k1 (vx_rI_J h 2 4) (fun c2 => ?_) (fun c2 => ?_)
  · replace H := H.1 c2
    refine vx_iload_n (n := 3) (q := 57) (by decide +kernel) rfl ?_
    refine vx_retI (q := 58) (by decide +kernel) k1 ?_
    exact H
  · replace H := H.2 c2
    refine vx_aload_n (n := 0) (q := 11) (by decide +kernel) rfl ?_
    refine vx_getR (b := 3) (idx := 9) (kd := 2) (s := 0) (fin := true) (q := 14) (by decide +kernel) (vx_Tk hT (by decide +kernel)) (vx_Tr hT (kd := 2) (by decide +kernel) (by decide +kernel) (by decide +kernel)) ?_
    refine vx_iload_n (n := 3) (q := 15) (by decide +kernel) rfl ?_
    obtain ⟨k3, H⟩ := H
    refine vx_baload (z := 600) (q := 16) (by decide +kernel) (vx_Tk hT (by decide +kernel)) (vx_Tz hT (by decide +kernel)) (vx_ix k3 (by decide)) ?_
    refine vx_callI (i := .invokestatic 41) (how := 4) (cm := 206) (np := 1) (q := 19) (args := [.int (vx_i (vx_J h 3 v3.toNat))]) (rest := []) (by decide +kernel) rfl rfl rfl (vx_w2 (w := 1) (ml := 1) rfl (by decide +kernel)) rfl H (fun r4 h4 hr4 hs4 H => ?_)
    have hT4 := vx_Tsh hT hs4
    replace H := H hT4
    refine vx_if0_ne (off := 31) (q := 22) (t := 50) (by decide +kernel) hr4 (fun c5 => ?_) (fun c5 => ?_)
    · replace H := H.1 c5
      refine vx_iinc (n := 3) (m := 1) (x := v3) (q := 53) (lv' := [some (.ref 2), some (.int (vx_i v1)), some (.int (vx_i v2)), some (.int (vx_i (v3 + 1)))]) (by decide +kernel) rfl rfl ?_
      refine vx_goto (off := (-51)) (q := 56) (t := 2) (by decide +kernel) ?_
      exact H
    · replace H := H.2 c5
      refine vx_aload_n (n := 0) (q := 23) (by decide +kernel) rfl ?_
      refine vx_getR (b := 3) (idx := 9) (kd := 2) (s := 0) (fin := true) (q := 26) (by decide +kernel) (vx_Tk hT4 (by decide +kernel)) (vx_Tr hT4 (kd := 2) (by decide +kernel) (by decide +kernel) (by decide +kernel)) ?_
      refine vx_iload_n (n := 3) (q := 27) (by decide +kernel) rfl ?_
      obtain ⟨k6, H⟩ := H
      refine vx_baload (z := 600) (q := 28) (by decide +kernel) (vx_Tk hT4 (by decide +kernel)) (vx_Tz hT4 (by decide +kernel)) (vx_ix k6 (by decide)) ?_
      refine vx_callI (i := .invokestatic 63) (how := 4) (cm := 208) (np := 1) (q := 31) (args := [.int (vx_i (vx_J h4 3 v3.toNat))]) (rest := []) (by decide +kernel) rfl rfl rfl (vx_w2 (w := 1) (ml := 1) rfl (by decide +kernel)) rfl H (fun r7 h7 hr7 hs7 H => ?_)
      have hT7 := vx_Tsh hT4 hs7
      replace H := H hT7
      refine vx_if0_ne (off := 19) (q := 34) (t := 50) (by decide +kernel) hr7 (fun c8 => ?_) (fun c8 => ?_)
      · replace H := H.1 c8
        refine vx_iinc (n := 3) (m := 1) (x := v3) (q := 53) (lv' := [some (.ref 2), some (.int (vx_i v1)), some (.int (vx_i v2)), some (.int (vx_i (v3 + 1)))]) (by decide +kernel) rfl rfl ?_
        refine vx_goto (off := (-51)) (q := 56) (t := 2) (by decide +kernel) ?_
        exact H
      · replace H := H.2 c8
        refine vx_iload_n (n := 2) (q := 35) (by decide +kernel) rfl ?_
        obtain ⟨k9, H⟩ := H
        refine vx_if0_eq (off := 21) (q := 38) (t := 56) (by decide +kernel) k9 (fun c10 => ?_) (fun c10 => ?_)
        · replace H := H.1 c10
          refine vx_iload_n (n := 3) (q := 57) (by decide +kernel) rfl ?_
          refine vx_retI (q := 58) (by decide +kernel) k1 ?_
          exact H
        · replace H := H.2 c10
          refine vx_aload_n (n := 0) (q := 39) (by decide +kernel) rfl ?_
          refine vx_getR (b := 3) (idx := 9) (kd := 2) (s := 0) (fin := true) (q := 42) (by decide +kernel) (vx_Tk hT7 (by decide +kernel)) (vx_Tr hT7 (kd := 2) (by decide +kernel) (by decide +kernel) (by decide +kernel)) ?_
          refine vx_iload_n (n := 3) (q := 43) (by decide +kernel) rfl ?_
          obtain ⟨k11, H⟩ := H
          refine vx_baload (z := 600) (q := 44) (by decide +kernel) (vx_Tk hT7 (by decide +kernel)) (vx_Tz hT7 (by decide +kernel)) (vx_ix k11 (by decide)) ?_
          refine vx_callI (i := .invokestatic 56) (how := 4) (cm := 207) (np := 1) (q := 47) (args := [.int (vx_i (vx_J h7 3 v3.toNat))]) (rest := []) (by decide +kernel) rfl rfl rfl (vx_w2 (w := 1) (ml := 1) rfl (by decide +kernel)) rfl H (fun r12 h12 hr12 hs12 H => ?_)
          have hT12 := vx_Tsh hT7 hs12
          replace H := H hT12
          refine vx_if0_eq (off := 9) (q := 50) (t := 56) (by decide +kernel) hr12 (fun c13 => ?_) (fun c13 => ?_)
          · replace H := H.1 c13
            refine vx_iload_n (n := 3) (q := 57) (by decide +kernel) rfl ?_
            refine vx_retI (q := 58) (by decide +kernel) k1 ?_
            exact H
          · replace H := H.2 c13
            refine vx_iinc (n := 3) (m := 1) (x := v3) (q := 53) (lv' := [some (.ref 2), some (.int (vx_i v1)), some (.int (vx_i v2)), some (.int (vx_i (v3 + 1)))]) (by decide +kernel) rfl rfl ?_
            refine vx_goto (off := (-51)) (q := 56) (t := 2) (by decide +kernel) ?_
            exact H
-- RuleHouse$Tape.endOfDigits(I)I
theorem vg_197 {d : Nat} {h : ve_H} {P : Int → ve_H → Prop} {x1 : Int} (hT : vx_T 1 625 h) (H : vx_W (d + 1) 197 2 [some (.ref 2), some (.int (vx_i x1)), some (.int (vx_i x1))] [] h (vx_RI P)) : vx_CI (d + 1) 197 [.ref 2, .int (vx_i x1)] h P := by
  refine vx_enter (ml := 3) (by decide +kernel) ?_
  show vx_W _ _ 0 [some (.ref 2), some (.int (vx_i x1)), none] [] h _
  refine vx_iload_n (n := 1) (q := 1) (by decide +kernel) rfl ?_
  refine vx_istore_n (n := 2) (q := 2) (lv' := [some (.ref 2), some (.int (vx_i x1)), some (.int (vx_i x1))]) (by decide +kernel) rfl ?_
  exact H
theorem vg_197_2 {d : Nat} {h : ve_H} {P : Int → ve_H → Prop} {v1 : Int} {v2 : Int} (hT : vx_T 1 625 h) (H : (vx_rI v2) ∧ (((vx_J h 2 4) ≤ v2 → P v2 h) ∧ (v2 < (vx_J h 2 4) → (0 ≤ v2 ∧ v2 < 600) ∧ vx_CI d 208 [.int (vx_i (vx_J h 3 v2.toNat))] h (fun r4 h4 => vx_T 1 625 h4 → ((r4 = 0 → P v2 h4) ∧ (r4 ≠ 0 → vx_W (d + 1) 197 2 [some (.ref 2), some (.int (vx_i v1)), some (.int (vx_i (v2 + 1)))] [] h4 (vx_RI P))))))) : vx_W (d + 1) 197 2 [some (.ref 2), some (.int (vx_i v1)), some (.int (vx_i v2))] [] h (vx_RI P) := by
  refine vx_iload_n (n := 2) (q := 3) (by decide +kernel) rfl ?_
  refine vx_aload_n (n := 0) (q := 4) (by decide +kernel) rfl ?_
  refine vx_getI (idx := 26) (kd := 2) (s := 4) (fin := false) (q := 7) (by decide +kernel) (vx_Tk hT (by decide +kernel)) ?_
  obtain ⟨k1, H⟩ := H
  refine vx_icmp_ge (off := 21) (q := 10) (t := 28) (by decide +kernel) k1 (vx_rI_J h 2 4) (fun c2 => ?_) (fun c2 => ?_)
  · replace H := H.1 c2
    refine vx_iload_n (n := 2) (q := 29) (by decide +kernel) rfl ?_
    refine vx_retI (q := 30) (by decide +kernel) k1 ?_
    exact H
  · replace H := H.2 c2
    refine vx_aload_n (n := 0) (q := 11) (by decide +kernel) rfl ?_
    refine vx_getR (b := 3) (idx := 9) (kd := 2) (s := 0) (fin := true) (q := 14) (by decide +kernel) (vx_Tk hT (by decide +kernel)) (vx_Tr hT (kd := 2) (by decide +kernel) (by decide +kernel) (by decide +kernel)) ?_
    refine vx_iload_n (n := 2) (q := 15) (by decide +kernel) rfl ?_
    obtain ⟨k3, H⟩ := H
    refine vx_baload (z := 600) (q := 16) (by decide +kernel) (vx_Tk hT (by decide +kernel)) (vx_Tz hT (by decide +kernel)) (vx_ix k3 (by decide)) ?_
    refine vx_callI (i := .invokestatic 63) (how := 4) (cm := 208) (np := 1) (q := 19) (args := [.int (vx_i (vx_J h 3 v2.toNat))]) (rest := []) (by decide +kernel) rfl rfl rfl (vx_w2 (w := 1) (ml := 1) rfl (by decide +kernel)) rfl H (fun r4 h4 hr4 hs4 H => ?_)
    have hT4 := vx_Tsh hT hs4
    replace H := H hT4
    refine vx_if0_eq (off := 9) (q := 22) (t := 28) (by decide +kernel) hr4 (fun c5 => ?_) (fun c5 => ?_)
    · replace H := H.1 c5
      refine vx_iload_n (n := 2) (q := 29) (by decide +kernel) rfl ?_
      refine vx_retI (q := 30) (by decide +kernel) k1 ?_
      exact H
    · replace H := H.2 c5
      refine vx_iinc (n := 2) (m := 1) (x := v2) (q := 25) (lv' := [some (.ref 2), some (.int (vx_i v1)), some (.int (vx_i (v2 + 1)))]) (by decide +kernel) rfl rfl ?_
      refine vx_goto (off := (-23)) (q := 28) (t := 2) (by decide +kernel) ?_
      exact H
-- RuleHouse$Tape.putBad(I)I
theorem vg_198 {d : Nat} {h : ve_H} {P : Int → ve_H → Prop} {x1 : Int} (hT : vx_T 1 625 h) (H : vx_CV d 202 [.ref 2, .int (vx_i 1), .int (vx_i x1), .long (vx_l 0)] h (fun h1 => vx_T 1 625 h1 → P (vx_J h1 2 4) h1)) : vx_CI (d + 1) 198 [.ref 2, .int (vx_i x1)] h P := by
  refine vx_enter (ml := 2) (by decide +kernel) ?_
  show vx_W _ _ 0 [some (.ref 2), some (.int (vx_i x1))] [] h _
  refine vx_aload_n (n := 0) (q := 1) (by decide +kernel) rfl ?_
  refine vx_iconst (n := 1) (q := 2) (by decide +kernel) ?_
  refine vx_iload_n (n := 1) (q := 3) (by decide +kernel) rfl ?_
  refine vx_lconst (n := 0) (m := 0) (q := 4) (by decide +kernel) ?_
  refine vx_callV (i := .invokevirtual 37) (how := 3) (cm := 202) (np := 4) (q := 7) (args := [.ref 2, .int (vx_i 1), .int (vx_i x1), .long (vx_l 0)]) (rest := []) (by decide +kernel) rfl rfl rfl (vx_w2 (w := 5) (ml := 5) rfl (by decide +kernel)) (vx_rcv (kd := 2) (vx_Tk hT (by decide +kernel)) (by decide +kernel)) H (fun h1 hs1 H => ?_)
  have hT1 := vx_Tsh hT hs1
  replace H := H hT1
  refine vx_aload_n (n := 0) (q := 8) (by decide +kernel) rfl ?_
  refine vx_getI (idx := 26) (kd := 2) (s := 4) (fin := false) (q := 11) (by decide +kernel) (vx_Tk hT1 (by decide +kernel)) ?_
  refine vx_retI (q := 12) (by decide +kernel) (vx_rI_J h1 2 4) ?_
  exact H
-- RuleHouse$Tape.putName(II)I
theorem vg_199 {d : Nat} {h : ve_H} {P : Int → ve_H → Prop} {x1 : Int} {x2 : Int} (hT : vx_T 1 625 h) (H : vx_CI d 200 [.ref 2, .int (vx_i 2), .int (vx_i x1), .int (vx_i x2)] h (fun r1 h1 => vx_T 1 625 h1 → (0 ≤ ((vx_J h1 2 5) - 1) ∧ ((vx_J h1 2 5) - 1) < 601) ∧ vx_CI d 203 [.long (vx_l (vx_K h1 6 ((vx_J h1 2 5) - 1).toNat))] h1 (fun r3 h3 => vx_T 1 625 h3 → (0 ≤ ((vx_J h1 2 5) - 1) ∧ ((vx_J h1 2 5) - 1) < 601) ∧ (∀ h5, h5 = vx_sJ h3 4 ((vx_J h1 2 5) - 1).toNat r3 → vx_T 1 625 h5 → (vx_rI x2) ∧ P x2 h5)))) : vx_CI (d + 1) 199 [.ref 2, .int (vx_i x1), .int (vx_i x2)] h P := by
  refine vx_enter (ml := 4) (by decide +kernel) ?_
  show vx_W _ _ 0 [some (.ref 2), some (.int (vx_i x1)), some (.int (vx_i x2)), none] [] h _
  refine vx_aload_n (n := 0) (q := 1) (by decide +kernel) rfl ?_
  refine vx_iconst (n := 2) (q := 2) (by decide +kernel) ?_
  refine vx_iload_n (n := 1) (q := 3) (by decide +kernel) rfl ?_
  refine vx_iload_n (n := 2) (q := 4) (by decide +kernel) rfl ?_
  refine vx_callI (i := .invokevirtual 59) (how := 3) (cm := 200) (np := 4) (q := 7) (args := [.ref 2, .int (vx_i 2), .int (vx_i x1), .int (vx_i x2)]) (rest := []) (by decide +kernel) rfl rfl rfl (vx_w2 (w := 4) (ml := 7) rfl (by decide +kernel)) (vx_rcv (kd := 2) (vx_Tk hT (by decide +kernel)) (by decide +kernel)) H (fun r1 h1 hr1 hs1 H => ?_)
  have hT1 := vx_Tsh hT hs1
  replace H := H hT1
  refine vx_popI (q := 8) (by decide +kernel) ?_
  refine vx_aload_n (n := 0) (q := 9) (by decide +kernel) rfl ?_
  refine vx_getI (idx := 30) (kd := 2) (s := 5) (fin := false) (q := 12) (by decide +kernel) (vx_Tk hT1 (by decide +kernel)) ?_
  refine vx_iconst (n := 1) (q := 13) (by decide +kernel) ?_
  refine vx_isub (q := 14) (by decide +kernel) ?_
  refine vx_istore_n (n := 3) (q := 15) (lv' := [some (.ref 2), some (.int (vx_i x1)), some (.int (vx_i x2)), some (.int (vx_i ((vx_J h1 2 5) - 1)))]) (by decide +kernel) rfl ?_
  refine vx_aload_n (n := 0) (q := 16) (by decide +kernel) rfl ?_
  refine vx_getR (b := 4) (idx := 15) (kd := 2) (s := 1) (fin := true) (q := 19) (by decide +kernel) (vx_Tk hT1 (by decide +kernel)) (vx_Tr hT1 (kd := 2) (by decide +kernel) (by decide +kernel) (by decide +kernel)) ?_
  refine vx_iload_n (n := 3) (q := 20) (by decide +kernel) rfl ?_
  refine vx_aload_n (n := 0) (q := 21) (by decide +kernel) rfl ?_
  refine vx_getR (b := 6) (idx := 22) (kd := 2) (s := 3) (fin := true) (q := 24) (by decide +kernel) (vx_Tk hT1 (by decide +kernel)) (vx_Tr hT1 (kd := 2) (by decide +kernel) (by decide +kernel) (by decide +kernel)) ?_
  refine vx_iload_n (n := 3) (q := 25) (by decide +kernel) rfl ?_
  obtain ⟨k2, H⟩ := H
  refine vx_laload (z := 601) (q := 26) (by decide +kernel) (vx_Tk hT1 (by decide +kernel)) (vx_Tz hT1 (by decide +kernel)) (vx_ix k2 (by decide)) ?_
  refine vx_callI (i := .invokestatic 78) (how := 4) (cm := 203) (np := 1) (q := 29) (args := [.long (vx_l (vx_K h1 6 ((vx_J h1 2 5) - 1).toNat))]) (rest := [.int (vx_i ((vx_J h1 2 5) - 1)), .ref 4]) (by decide +kernel) rfl rfl rfl (vx_w2 (w := 2) (ml := 2) rfl (by decide +kernel)) rfl H (fun r3 h3 hr3 hs3 H => ?_)
  have hT3 := vx_Tsh hT1 hs3
  replace H := H hT3
  obtain ⟨k4, H⟩ := H
  refine vx_iastore (z := 601) (q := 30) (by decide +kernel) (vx_Tk hT3 (by decide +kernel)) (vx_Tz hT3 (by decide +kernel)) (vx_ix k4 (by decide)) (fun h5 e5 => ?_)
  have hT5 := vx_TJ hT3 e5
  replace H := H h5 e5 hT5
  refine vx_iload_n (n := 2) (q := 31) (by decide +kernel) rfl ?_
  obtain ⟨k6, H⟩ := H
  refine vx_retI (q := 32) (by decide +kernel) k6 ?_
  exact H
-- RuleHouse$Tape.putPacked(III)I
theorem vg_200 {d : Nat} {h : ve_H} {P : Int → ve_H → Prop} {x1 : Int} {x2 : Int} {x3 : Int} (hT : vx_T 1 625 h) (H : vx_W (d + 1) 200 6 [some (.ref 2), some (.int (vx_i x1)), some (.int (vx_i x2)), some (.int (vx_i x3)), some (.long (vx_l 0)), none, some (.int (vx_i 0))] [] h (vx_RI P)) : vx_CI (d + 1) 200 [.ref 2, .int (vx_i x1), .int (vx_i x2), .int (vx_i x3)] h P := by
  refine vx_enter (ml := 7) (by decide +kernel) ?_
  show vx_W _ _ 0 [some (.ref 2), some (.int (vx_i x1)), some (.int (vx_i x2)), some (.int (vx_i x3)), none, none, none] [] h _
  refine vx_lconst (n := 0) (m := 0) (q := 1) (by decide +kernel) ?_
  refine vx_lstore (n := 4) (q := 3) (lv' := [some (.ref 2), some (.int (vx_i x1)), some (.int (vx_i x2)), some (.int (vx_i x3)), some (.long (vx_l 0)), none, none]) (by decide +kernel) rfl ?_
  refine vx_iconst (n := 0) (q := 4) (by decide +kernel) ?_
  refine vx_istore (n := 6) (q := 6) (lv' := [some (.ref 2), some (.int (vx_i x1)), some (.int (vx_i x2)), some (.int (vx_i x3)), some (.long (vx_l 0)), none, some (.int (vx_i 0))]) (by decide +kernel) rfl ?_
  exact H
theorem vg_200_6 {d : Nat} {h : ve_H} {P : Int → ve_H → Prop} {v1 : Int} {v2 : Int} {v3 : Int} {v4 : Int} {v6 : Int} (hT : vx_T 1 625 h) (H : (vx_rI v6) ∧ ((6 ≤ v6 → vx_CV d 202 [.ref 2, .int (vx_i v1), .int (vx_i v2), .long (vx_l (72057594037927936 + v4))] h (fun h3 => vx_T 1 625 h3 → (vx_rI v3) ∧ P v3 h3)) ∧ (v6 < 6 → (vx_rI (v2 + v6)) ∧ (vx_rI v3) ∧ ((v3 ≤ (v2 + v6) → vx_W (d + 1) 200 6 [some (.ref 2), some (.int (vx_i v1)), some (.int (vx_i v2)), some (.int (vx_i v3)), some (.long (vx_l ((v4 * 256) + 0))), none, some (.int (vx_i (v6 + 1)))] [] h (vx_RI P)) ∧ ((v2 + v6) < v3 → (0 ≤ (v2 + v6) ∧ (v2 + v6) < 600) ∧ vx_W (d + 1) 200 6 [some (.ref 2), some (.int (vx_i v1)), some (.int (vx_i v2)), some (.int (vx_i v3)), some (.long (vx_l ((v4 * 256) + (vx_J h 3 (v2 + v6).toNat)))), none, some (.int (vx_i (v6 + 1)))] [] h (vx_RI P)))))) : vx_W (d + 1) 200 6 [some (.ref 2), some (.int (vx_i v1)), some (.int (vx_i v2)), some (.int (vx_i v3)), some (.long (vx_l v4)), none, some (.int (vx_i v6))] [] h (vx_RI P) := by
  refine vx_iload (n := 6) (q := 8) (by decide +kernel) rfl ?_
  refine vx_bipush (n := 6) (q := 10) (by decide +kernel) ?_
  obtain ⟨k1, H⟩ := H
  refine vx_icmp_ge (off := 40) (q := 13) (t := 50) (by decide +kernel) k1 (by decide) (fun c2 => ?_) (fun c2 => ?_)
  · replace H := H.1 c2
    refine vx_aload_n (n := 0) (q := 51) (by decide +kernel) rfl ?_
    refine vx_iload_n (n := 1) (q := 52) (by decide +kernel) rfl ?_
    refine vx_iload_n (n := 2) (q := 53) (by decide +kernel) rfl ?_
    refine vx_ldc (idx := 84) (v := 72057594037927936) (m := 72057594037927936) (q := 56) (by decide +kernel) ?_
    refine vx_lload (n := 4) (q := 58) (by decide +kernel) rfl ?_
    refine vx_ladd (q := 59) (by decide +kernel) ?_
    refine vx_callV (i := .invokevirtual 37) (how := 3) (cm := 202) (np := 4) (q := 62) (args := [.ref 2, .int (vx_i v1), .int (vx_i v2), .long (vx_l (72057594037927936 + v4))]) (rest := []) (by decide +kernel) rfl rfl rfl (vx_w2 (w := 5) (ml := 5) rfl (by decide +kernel)) (vx_rcv (kd := 2) (vx_Tk hT (by decide +kernel)) (by decide +kernel)) H (fun h3 hs3 H => ?_)
    have hT3 := vx_Tsh hT hs3
    replace H := H hT3
    refine vx_iload_n (n := 3) (q := 63) (by decide +kernel) rfl ?_
    obtain ⟨k4, H⟩ := H
    refine vx_retI (q := 64) (by decide +kernel) k4 ?_
    exact H
  · replace H := H.2 c2
    refine vx_lload (n := 4) (q := 15) (by decide +kernel) rfl ?_
    refine vx_ldc (idx := 82) (v := 256) (m := 256) (q := 18) (by decide +kernel) ?_
    refine vx_lmul (q := 19) (by decide +kernel) ?_
    refine vx_iload_n (n := 2) (q := 20) (by decide +kernel) rfl ?_
    refine vx_iload (n := 6) (q := 22) (by decide +kernel) rfl ?_
    refine vx_iadd (q := 23) (by decide +kernel) ?_
    refine vx_iload_n (n := 3) (q := 24) (by decide +kernel) rfl ?_
    obtain ⟨k5, H⟩ := H
    obtain ⟨k6, H⟩ := H
    refine vx_icmp_ge (off := 15) (q := 27) (t := 39) (by decide +kernel) k5 k6 (fun c7 => ?_) (fun c7 => ?_)
    · replace H := H.1 c7
      refine vx_iconst (n := 0) (q := 40) (by decide +kernel) ?_
      refine vx_i2l (q := 41) (by decide +kernel) (by decide) ?_
      refine vx_ladd (q := 42) (by decide +kernel) ?_
      refine vx_lstore (n := 4) (q := 44) (lv' := [some (.ref 2), some (.int (vx_i v1)), some (.int (vx_i v2)), some (.int (vx_i v3)), some (.long (vx_l ((v4 * 256) + 0))), none, some (.int (vx_i v6))]) (by decide +kernel) rfl ?_
      refine vx_iinc (n := 6) (m := 1) (x := v6) (q := 47) (lv' := [some (.ref 2), some (.int (vx_i v1)), some (.int (vx_i v2)), some (.int (vx_i v3)), some (.long (vx_l ((v4 * 256) + 0))), none, some (.int (vx_i (v6 + 1)))]) (by decide +kernel) rfl rfl ?_
      refine vx_goto (off := (-41)) (q := 50) (t := 6) (by decide +kernel) ?_
      exact H
    · replace H := H.2 c7
      refine vx_aload_n (n := 0) (q := 28) (by decide +kernel) rfl ?_
      refine vx_getR (b := 3) (idx := 9) (kd := 2) (s := 0) (fin := true) (q := 31) (by decide +kernel) (vx_Tk hT (by decide +kernel)) (vx_Tr hT (kd := 2) (by decide +kernel) (by decide +kernel) (by decide +kernel)) ?_
      refine vx_iload_n (n := 2) (q := 32) (by decide +kernel) rfl ?_
      refine vx_iload (n := 6) (q := 34) (by decide +kernel) rfl ?_
      refine vx_iadd (q := 35) (by decide +kernel) ?_
      obtain ⟨k8, H⟩ := H
      refine vx_baload (z := 600) (q := 36) (by decide +kernel) (vx_Tk hT (by decide +kernel)) (vx_Tz hT (by decide +kernel)) (vx_ix k8 (by decide)) ?_
      refine vx_goto (off := 4) (q := 39) (t := 40) (by decide +kernel) ?_
      refine vx_i2l (q := 41) (by decide +kernel) (vx_rI_J h 3 (v2 + v6).toNat) ?_
      refine vx_ladd (q := 42) (by decide +kernel) ?_
      refine vx_lstore (n := 4) (q := 44) (lv' := [some (.ref 2), some (.int (vx_i v1)), some (.int (vx_i v2)), some (.int (vx_i v3)), some (.long (vx_l ((v4 * 256) + (vx_J h 3 (v2 + v6).toNat)))), none, some (.int (vx_i v6))]) (by decide +kernel) rfl ?_
      refine vx_iinc (n := 6) (m := 1) (x := v6) (q := 47) (lv' := [some (.ref 2), some (.int (vx_i v1)), some (.int (vx_i v2)), some (.int (vx_i v3)), some (.long (vx_l ((v4 * 256) + (vx_J h 3 (v2 + v6).toNat)))), none, some (.int (vx_i (v6 + 1)))]) (by decide +kernel) rfl rfl ?_
      refine vx_goto (off := (-41)) (q := 50) (t := 6) (by decide +kernel) ?_
      exact H
-- RuleHouse$Tape.putNumber(II)I
theorem vg_201 {d : Nat} {h : ve_H} {P : Int → ve_H → Prop} {x1 : Int} {x2 : Int} (hT : vx_T 1 625 h) (H : vx_W (d + 1) 201 5 [some (.ref 2), some (.int (vx_i x1)), some (.int (vx_i x2)), some (.long (vx_l 0)), none, some (.int (vx_i x1))] [] h (vx_RI P)) : vx_CI (d + 1) 201 [.ref 2, .int (vx_i x1), .int (vx_i x2)] h P := by
  refine vx_enter (ml := 6) (by decide +kernel) ?_
  show vx_W _ _ 0 [some (.ref 2), some (.int (vx_i x1)), some (.int (vx_i x2)), none, none, none] [] h _
  refine vx_lconst (n := 0) (m := 0) (q := 1) (by decide +kernel) ?_
  refine vx_lstore_n (n := 3) (q := 2) (lv' := [some (.ref 2), some (.int (vx_i x1)), some (.int (vx_i x2)), some (.long (vx_l 0)), none, none]) (by decide +kernel) rfl ?_
  refine vx_iload_n (n := 1) (q := 3) (by decide +kernel) rfl ?_
  refine vx_istore (n := 5) (q := 5) (lv' := [some (.ref 2), some (.int (vx_i x1)), some (.int (vx_i x2)), some (.long (vx_l 0)), none, some (.int (vx_i x1))]) (by decide +kernel) rfl ?_
  exact H
theorem vg_201_5 {d : Nat} {h : ve_H} {P : Int → ve_H → Prop} {v1 : Int} {v2 : Int} {v3 : Int} {v5 : Int} (hT : vx_T 1 625 h) (H : (vx_rI v5) ∧ (vx_rI v2) ∧ ((v2 ≤ v5 → vx_CV d 202 [.ref 2, .int (vx_i 4), .int (vx_i v1), .long (vx_l v3)] h (fun h4 => vx_T 1 625 h4 → P v2 h4)) ∧ (v5 < v2 → (0 ≤ v5 ∧ v5 < 600) ∧ (vx_rI ((vx_J h 3 v5.toNat) - 48)) ∧ vx_W (d + 1) 201 5 [some (.ref 2), some (.int (vx_i v1)), some (.int (vx_i v2)), some (.long (vx_l ((v3 * 10) + ((vx_J h 3 v5.toNat) - 48)))), none, some (.int (vx_i (v5 + 1)))] [] h (vx_RI P)))) : vx_W (d + 1) 201 5 [some (.ref 2), some (.int (vx_i v1)), some (.int (vx_i v2)), some (.long (vx_l v3)), none, some (.int (vx_i v5))] [] h (vx_RI P) := by
  refine vx_iload (n := 5) (q := 7) (by decide +kernel) rfl ?_
  refine vx_iload_n (n := 2) (q := 8) (by decide +kernel) rfl ?_
  obtain ⟨k1, H⟩ := H
  obtain ⟨k2, H⟩ := H
  refine vx_icmp_ge (off := 27) (q := 11) (t := 35) (by decide +kernel) k1 k2 (fun c3 => ?_) (fun c3 => ?_)
  · replace H := H.1 c3
    refine vx_aload_n (n := 0) (q := 36) (by decide +kernel) rfl ?_
    refine vx_iconst (n := 4) (q := 37) (by decide +kernel) ?_
    refine vx_iload_n (n := 1) (q := 38) (by decide +kernel) rfl ?_
    refine vx_lload_n (n := 3) (q := 39) (by decide +kernel) rfl ?_
    refine vx_callV (i := .invokevirtual 37) (how := 3) (cm := 202) (np := 4) (q := 42) (args := [.ref 2, .int (vx_i 4), .int (vx_i v1), .long (vx_l v3)]) (rest := []) (by decide +kernel) rfl rfl rfl (vx_w2 (w := 5) (ml := 5) rfl (by decide +kernel)) (vx_rcv (kd := 2) (vx_Tk hT (by decide +kernel)) (by decide +kernel)) H (fun h4 hs4 H => ?_)
    have hT4 := vx_Tsh hT hs4
    replace H := H hT4
    refine vx_iload_n (n := 2) (q := 43) (by decide +kernel) rfl ?_
    refine vx_retI (q := 44) (by decide +kernel) k2 ?_
    exact H
  · replace H := H.2 c3
    refine vx_lload_n (n := 3) (q := 12) (by decide +kernel) rfl ?_
    refine vx_ldc (idx := 86) (v := 10) (m := 10) (q := 15) (by decide +kernel) ?_
    refine vx_lmul (q := 16) (by decide +kernel) ?_
    refine vx_aload_n (n := 0) (q := 17) (by decide +kernel) rfl ?_
    refine vx_getR (b := 3) (idx := 9) (kd := 2) (s := 0) (fin := true) (q := 20) (by decide +kernel) (vx_Tk hT (by decide +kernel)) (vx_Tr hT (kd := 2) (by decide +kernel) (by decide +kernel) (by decide +kernel)) ?_
    refine vx_iload (n := 5) (q := 22) (by decide +kernel) rfl ?_
    obtain ⟨k5, H⟩ := H
    refine vx_baload (z := 600) (q := 23) (by decide +kernel) (vx_Tk hT (by decide +kernel)) (vx_Tz hT (by decide +kernel)) (vx_ix k5 (by decide)) ?_
    refine vx_bipush (n := 48) (q := 25) (by decide +kernel) ?_
    refine vx_isub (q := 26) (by decide +kernel) ?_
    obtain ⟨k6, H⟩ := H
    refine vx_i2l (q := 27) (by decide +kernel) k6 ?_
    refine vx_ladd (q := 28) (by decide +kernel) ?_
    refine vx_lstore_n (n := 3) (q := 29) (lv' := [some (.ref 2), some (.int (vx_i v1)), some (.int (vx_i v2)), some (.long (vx_l ((v3 * 10) + ((vx_J h 3 v5.toNat) - 48)))), none, some (.int (vx_i v5))]) (by decide +kernel) rfl ?_
    refine vx_iinc (n := 5) (m := 1) (x := v5) (q := 32) (lv' := [some (.ref 2), some (.int (vx_i v1)), some (.int (vx_i v2)), some (.long (vx_l ((v3 * 10) + ((vx_J h 3 v5.toNat) - 48)))), none, some (.int (vx_i (v5 + 1)))]) (by decide +kernel) rfl rfl ?_
    refine vx_goto (off := (-27)) (q := 35) (t := 5) (by decide +kernel) ?_
    exact H
-- RuleHouse$Tape.put(IIJ)V
theorem vg_202 {d : Nat} {h : ve_H} {P : ve_H → Prop} {x1 : Int} {x2 : Int} {x3 : Int} (hT : vx_T 1 625 h) (H : (((vx_J h 2 5) ≤ 600 → (0 ≤ (vx_J h 2 5) ∧ (vx_J h 2 5) < 601) ∧ (∀ h3, h3 = vx_sJ h 4 (vx_J h 2 5).toNat x1 → vx_T 1 625 h3 → (0 ≤ (vx_J h3 2 5) ∧ (vx_J h3 2 5) < 601) ∧ (∀ h5, h5 = vx_sJ h3 5 (vx_J h3 2 5).toNat x2 → vx_T 1 625 h5 → (0 ≤ (vx_J h5 2 5) ∧ (vx_J h5 2 5) < 601) ∧ (∀ h7, h7 = vx_sK h5 6 (vx_J h5 2 5).toNat x3 → vx_T 1 625 h7 → (∀ h8, h8 = vx_sJ h7 2 5 ((vx_J h7 2 5) + 1) → vx_T 1 625 h8 → P h8))))) ∧ (600 < (vx_J h 2 5) → P h))) : vx_CV d 202 [.ref 2, .int (vx_i x1), .int (vx_i x2), .long (vx_l x3)] h P := by
  refine vx_enter (ml := 5) (by decide +kernel) ?_
  show vx_W _ _ 0 [some (.ref 2), some (.int (vx_i x1)), some (.int (vx_i x2)), some (.long (vx_l x3)), none] [] h _
  refine vx_aload_n (n := 0) (q := 1) (by decide +kernel) rfl ?_
  refine vx_getI (idx := 30) (kd := 2) (s := 5) (fin := false) (q := 4) (by decide +kernel) (vx_Tk hT (by decide +kernel)) ?_
  refine vx_sipush (n := 600) (q := 7) (by decide +kernel) ?_
  refine vx_icmp_le (off := 4) (q := 10) (t := 11) (by decide +kernel) (vx_rI_J h 2 5) (by decide) (fun c1 => ?_) (fun c1 => ?_)
  · replace H := H.1 c1
    refine vx_aload_n (n := 0) (q := 12) (by decide +kernel) rfl ?_
    refine vx_getR (b := 4) (idx := 15) (kd := 2) (s := 1) (fin := true) (q := 15) (by decide +kernel) (vx_Tk hT (by decide +kernel)) (vx_Tr hT (kd := 2) (by decide +kernel) (by decide +kernel) (by decide +kernel)) ?_
    refine vx_aload_n (n := 0) (q := 16) (by decide +kernel) rfl ?_
    refine vx_getI (idx := 30) (kd := 2) (s := 5) (fin := false) (q := 19) (by decide +kernel) (vx_Tk hT (by decide +kernel)) ?_
    refine vx_iload_n (n := 1) (q := 20) (by decide +kernel) rfl ?_
    obtain ⟨k2, H⟩ := H
    refine vx_iastore (z := 601) (q := 21) (by decide +kernel) (vx_Tk hT (by decide +kernel)) (vx_Tz hT (by decide +kernel)) (vx_ix k2 (by decide)) (fun h3 e3 => ?_)
    have hT3 := vx_TJ hT e3
    replace H := H h3 e3 hT3
    refine vx_aload_n (n := 0) (q := 22) (by decide +kernel) rfl ?_
    refine vx_getR (b := 5) (idx := 19) (kd := 2) (s := 2) (fin := true) (q := 25) (by decide +kernel) (vx_Tk hT3 (by decide +kernel)) (vx_Tr hT3 (kd := 2) (by decide +kernel) (by decide +kernel) (by decide +kernel)) ?_
    refine vx_aload_n (n := 0) (q := 26) (by decide +kernel) rfl ?_
    refine vx_getI (idx := 30) (kd := 2) (s := 5) (fin := false) (q := 29) (by decide +kernel) (vx_Tk hT3 (by decide +kernel)) ?_
    refine vx_iload_n (n := 2) (q := 30) (by decide +kernel) rfl ?_
    obtain ⟨k4, H⟩ := H
    refine vx_iastore (z := 601) (q := 31) (by decide +kernel) (vx_Tk hT3 (by decide +kernel)) (vx_Tz hT3 (by decide +kernel)) (vx_ix k4 (by decide)) (fun h5 e5 => ?_)
    have hT5 := vx_TJ hT3 e5
    replace H := H h5 e5 hT5
    refine vx_aload_n (n := 0) (q := 32) (by decide +kernel) rfl ?_
    refine vx_getR (b := 6) (idx := 22) (kd := 2) (s := 3) (fin := true) (q := 35) (by decide +kernel) (vx_Tk hT5 (by decide +kernel)) (vx_Tr hT5 (kd := 2) (by decide +kernel) (by decide +kernel) (by decide +kernel)) ?_
    refine vx_aload_n (n := 0) (q := 36) (by decide +kernel) rfl ?_
    refine vx_getI (idx := 30) (kd := 2) (s := 5) (fin := false) (q := 39) (by decide +kernel) (vx_Tk hT5 (by decide +kernel)) ?_
    refine vx_lload_n (n := 3) (q := 40) (by decide +kernel) rfl ?_
    obtain ⟨k6, H⟩ := H
    refine vx_lastore (z := 601) (q := 41) (by decide +kernel) (vx_Tk hT5 (by decide +kernel)) (vx_Tz hT5 (by decide +kernel)) (vx_ix k6 (by decide)) (fun h7 e7 => ?_)
    have hT7 := vx_TK hT5 e7
    replace H := H h7 e7 hT7
    refine vx_aload_n (n := 0) (q := 42) (by decide +kernel) rfl ?_
    refine vx_dupR (q := 43) (by decide +kernel) ?_
    refine vx_getI (idx := 30) (kd := 2) (s := 5) (fin := false) (q := 46) (by decide +kernel) (vx_Tk hT7 (by decide +kernel)) ?_
    refine vx_iconst (n := 1) (q := 47) (by decide +kernel) ?_
    refine vx_iadd (q := 48) (by decide +kernel) ?_
    refine vx_putI (idx := 30) (kd := 2) (s := 5) (fin := false) (q := 51) (by decide +kernel) (vx_Tk hT7 (by decide +kernel)) (fun h8 e8 => ?_)
    have hT8 := vx_TJ hT7 e8
    replace H := H h8 e8 hT8
    refine vx_retV (q := 52) (by decide +kernel) ?_
    exact H
  · replace H := H.2 c1
    refine vx_retV (q := 11) (by decide +kernel) ?_
    exact H
-- RuleHouse$Tape.nameKind(J)I
theorem vg_203 {d : Nat} {h : ve_H} {P : Int → ve_H → Prop} {x1 : Int} (hT : vx_T 1 625 h) (H : (vx_rL x1) ∧ ((x1 ≠ 72173536680083456 → ((x1 ≠ 72166924400620544 → ((x1 ≠ 72184542215012352 → ((x1 ≠ 72176776720380928 → ((x1 ≠ 72177919483707392 → P 2 h) ∧ (x1 = 72177919483707392 → P 9 h))) ∧ (x1 = 72176776720380928 → P 8 h))) ∧ (x1 = 72184542215012352 → P 7 h))) ∧ (x1 = 72166924400620544 → P 6 h))) ∧ (x1 = 72173536680083456 → P 5 h))) : vx_CI d 203 [.long (vx_l x1)] h P := by
  refine vx_enter (ml := 2) (by decide +kernel) ?_
  show vx_W _ _ 0 [some (.long (vx_l x1)), none] [] h _
  refine vx_lload_n (n := 0) (q := 1) (by decide +kernel) rfl ?_
  refine vx_ldc (idx := 88) (v := 72173536680083456) (m := 72173536680083456) (q := 4) (by decide +kernel) ?_
  obtain ⟨k1, H⟩ := H
  refine vx_lc_ne (off := 5) (p := 5) (q := 8) (t := 10) (by decide +kernel) k1 (by decide) (fun c2 => ?_) (fun c2 => ?_)
  · replace H := H.1 c2
    refine vx_lload_n (n := 0) (q := 11) (by decide +kernel) rfl ?_
    refine vx_ldc (idx := 90) (v := 72166924400620544) (m := 72166924400620544) (q := 14) (by decide +kernel) ?_
    refine vx_lc_ne (off := 6) (p := 15) (q := 18) (t := 21) (by decide +kernel) k1 (by decide) (fun c3 => ?_) (fun c3 => ?_)
    · replace H := H.1 c3
      refine vx_lload_n (n := 0) (q := 22) (by decide +kernel) rfl ?_
      refine vx_ldc (idx := 92) (v := 72184542215012352) (m := 72184542215012352) (q := 25) (by decide +kernel) ?_
      refine vx_lc_ne (off := 6) (p := 26) (q := 29) (t := 32) (by decide +kernel) k1 (by decide) (fun c4 => ?_) (fun c4 => ?_)
      · replace H := H.1 c4
        refine vx_lload_n (n := 0) (q := 33) (by decide +kernel) rfl ?_
        refine vx_ldc (idx := 94) (v := 72176776720380928) (m := 72176776720380928) (q := 36) (by decide +kernel) ?_
        refine vx_lc_ne (off := 6) (p := 37) (q := 40) (t := 43) (by decide +kernel) k1 (by decide) (fun c5 => ?_) (fun c5 => ?_)
        · replace H := H.1 c5
          refine vx_lload_n (n := 0) (q := 44) (by decide +kernel) rfl ?_
          refine vx_ldc (idx := 96) (v := 72177919483707392) (m := 72177919483707392) (q := 47) (by decide +kernel) ?_
          refine vx_lc_ne (off := 8) (p := 48) (q := 51) (t := 56) (by decide +kernel) k1 (by decide) (fun c6 => ?_) (fun c6 => ?_)
          · replace H := H.1 c6
            refine vx_iconst (n := 2) (q := 57) (by decide +kernel) ?_
            refine vx_retI (q := 58) (by decide +kernel) (by decide) ?_
            exact H
          · replace H := H.2 c6
            refine vx_bipush (n := 9) (q := 53) (by decide +kernel) ?_
            refine vx_goto (off := 4) (q := 56) (t := 57) (by decide +kernel) ?_
            refine vx_retI (q := 58) (by decide +kernel) (by decide) ?_
            exact H
        · replace H := H.2 c5
          refine vx_bipush (n := 8) (q := 42) (by decide +kernel) ?_
          refine vx_retI (q := 43) (by decide +kernel) (by decide) ?_
          exact H
      · replace H := H.2 c4
        refine vx_bipush (n := 7) (q := 31) (by decide +kernel) ?_
        refine vx_retI (q := 32) (by decide +kernel) (by decide) ?_
        exact H
    · replace H := H.2 c3
      refine vx_bipush (n := 6) (q := 20) (by decide +kernel) ?_
      refine vx_retI (q := 21) (by decide +kernel) (by decide) ?_
      exact H
  · replace H := H.2 c2
    refine vx_iconst (n := 5) (q := 9) (by decide +kernel) ?_
    refine vx_retI (q := 10) (by decide +kernel) (by decide) ?_
    exact H
-- RuleHouse$Tape.pairKind(II)I
theorem vg_204 {d : Nat} {h : ve_H} {P : Int → ve_H → Prop} {x1 : Int} {x2 : Int} (hT : vx_T 1 625 h) (H : (vx_rI x1) ∧ ((x1 ≠ 58 → (vx_rI x2) ∧ ((x2 = 61 → ((x1 = 33 → P 11 h) ∧ (x1 = 60 → P 12 h) ∧ (x1 = 62 → P 13 h) ∧ (x1 ≠ 33 ∧ x1 ≠ 60 ∧ x1 ≠ 62 ∧ True → P ((-1)) h))) ∧ (x2 ≠ 61 → P ((-1)) h))) ∧ (x1 = 58 → (vx_rI x2) ∧ ((x2 ≠ 45 → ((x2 = 61 → ((x1 = 33 → P 11 h) ∧ (x1 = 60 → P 12 h) ∧ (x1 = 62 → P 13 h) ∧ (x1 ≠ 33 ∧ x1 ≠ 60 ∧ x1 ≠ 62 ∧ True → P ((-1)) h))) ∧ (x2 ≠ 61 → P ((-1)) h))) ∧ (x2 = 45 → P 10 h))))) : vx_CI d 204 [.int (vx_i x1), .int (vx_i x2)] h P := by
  refine vx_enter (ml := 2) (by decide +kernel) ?_
  show vx_W _ _ 0 [some (.int (vx_i x1)), some (.int (vx_i x2))] [] h _
  refine vx_iload_n (n := 0) (q := 1) (by decide +kernel) rfl ?_
  refine vx_bipush (n := 58) (q := 3) (by decide +kernel) ?_
  obtain ⟨k1, H⟩ := H
  refine vx_icmp_ne (off := 12) (q := 6) (t := 15) (by decide +kernel) k1 (by decide) (fun c2 => ?_) (fun c2 => ?_)
  · replace H := H.1 c2
    refine vx_iload_n (n := 1) (q := 16) (by decide +kernel) rfl ?_
    refine vx_bipush (n := 61) (q := 18) (by decide +kernel) ?_
    obtain ⟨k3, H⟩ := H
    refine vx_icmp_eq (off := 5) (q := 21) (t := 23) (by decide +kernel) k3 (by decide) (fun c4 => ?_) (fun c4 => ?_)
    · replace H := H.1 c4
      refine vx_iload_n (n := 0) (q := 24) (by decide +kernel) rfl ?_
      refine vx_lsw (dd := 45) (ps := #[(33, 36), (60, 39), (62, 42)]) (tl := [(33, 60), (60, 63), (62, 66)]) (td := 69) (q := 60) (by decide +kernel) k1 ⟨fun c5 => ?_, fun c5 => ?_, fun c5 => ?_, trivial⟩ (fun c5 => ?_)
      · replace H := H.1 c5
        refine vx_bipush (n := 11) (q := 62) (by decide +kernel) ?_
        refine vx_retI (q := 63) (by decide +kernel) (by decide) ?_
        exact H
      · replace H := H.2.1 c5
        refine vx_bipush (n := 12) (q := 65) (by decide +kernel) ?_
        refine vx_retI (q := 66) (by decide +kernel) (by decide) ?_
        exact H
      · replace H := H.2.2.1 c5
        refine vx_bipush (n := 13) (q := 68) (by decide +kernel) ?_
        refine vx_retI (q := 69) (by decide +kernel) (by decide) ?_
        exact H
      · replace H := H.2.2.2 c5
        refine vx_iconst (n := (-1)) (q := 70) (by decide +kernel) ?_
        refine vx_retI (q := 71) (by decide +kernel) (by decide) ?_
        exact H
    · replace H := H.2 c4
      refine vx_iconst (n := (-1)) (q := 22) (by decide +kernel) ?_
      refine vx_retI (q := 23) (by decide +kernel) (by decide) ?_
      exact H
  · replace H := H.2 c2
    refine vx_iload_n (n := 1) (q := 7) (by decide +kernel) rfl ?_
    refine vx_bipush (n := 45) (q := 9) (by decide +kernel) ?_
    obtain ⟨k6, H⟩ := H
    refine vx_icmp_ne (off := 6) (q := 12) (t := 15) (by decide +kernel) k6 (by decide) (fun c7 => ?_) (fun c7 => ?_)
    · replace H := H.1 c7
      refine vx_iload_n (n := 1) (q := 16) (by decide +kernel) rfl ?_
      refine vx_bipush (n := 61) (q := 18) (by decide +kernel) ?_
      refine vx_icmp_eq (off := 5) (q := 21) (t := 23) (by decide +kernel) k6 (by decide) (fun c8 => ?_) (fun c8 => ?_)
      · replace H := H.1 c8
        refine vx_iload_n (n := 0) (q := 24) (by decide +kernel) rfl ?_
        refine vx_lsw (dd := 45) (ps := #[(33, 36), (60, 39), (62, 42)]) (tl := [(33, 60), (60, 63), (62, 66)]) (td := 69) (q := 60) (by decide +kernel) k1 ⟨fun c9 => ?_, fun c9 => ?_, fun c9 => ?_, trivial⟩ (fun c9 => ?_)
        · replace H := H.1 c9
          refine vx_bipush (n := 11) (q := 62) (by decide +kernel) ?_
          refine vx_retI (q := 63) (by decide +kernel) (by decide) ?_
          exact H
        · replace H := H.2.1 c9
          refine vx_bipush (n := 12) (q := 65) (by decide +kernel) ?_
          refine vx_retI (q := 66) (by decide +kernel) (by decide) ?_
          exact H
        · replace H := H.2.2.1 c9
          refine vx_bipush (n := 13) (q := 68) (by decide +kernel) ?_
          refine vx_retI (q := 69) (by decide +kernel) (by decide) ?_
          exact H
        · replace H := H.2.2.2 c9
          refine vx_iconst (n := (-1)) (q := 70) (by decide +kernel) ?_
          refine vx_retI (q := 71) (by decide +kernel) (by decide) ?_
          exact H
      · replace H := H.2 c8
        refine vx_iconst (n := (-1)) (q := 22) (by decide +kernel) ?_
        refine vx_retI (q := 23) (by decide +kernel) (by decide) ?_
        exact H
    · replace H := H.2 c7
      refine vx_bipush (n := 10) (q := 14) (by decide +kernel) ?_
      refine vx_retI (q := 15) (by decide +kernel) (by decide) ?_
      exact H
-- RuleHouse$Tape.isSign(I)Z
theorem vg_205 {d : Nat} {h : ve_H} {P : Int → ve_H → Prop} {x1 : Int} (hT : vx_T 1 625 h) (H : (vx_rI x1) ∧ ((x1 = 33 → P 1 h) ∧ (x1 = 37 → P 1 h) ∧ (x1 = 40 → P 1 h) ∧ (x1 = 41 → P 1 h) ∧ (x1 = 42 → P 1 h) ∧ (x1 = 43 → P 1 h) ∧ (x1 = 44 → P 1 h) ∧ (x1 = 45 → P 1 h) ∧ (x1 = 46 → P 1 h) ∧ (x1 = 47 → P 1 h) ∧ (x1 = 60 → P 1 h) ∧ (x1 = 61 → P 1 h) ∧ (x1 = 62 → P 1 h) ∧ (x1 = 63 → P 1 h) ∧ (x1 = 95 → P 1 h) ∧ (x1 ≠ 33 ∧ x1 ≠ 37 ∧ x1 ≠ 40 ∧ x1 ≠ 41 ∧ x1 ≠ 42 ∧ x1 ≠ 43 ∧ x1 ≠ 44 ∧ x1 ≠ 45 ∧ x1 ≠ 46 ∧ x1 ≠ 47 ∧ x1 ≠ 60 ∧ x1 ≠ 61 ∧ x1 ≠ 62 ∧ x1 ≠ 63 ∧ x1 ≠ 95 ∧ True → P 0 h))) : vx_CI d 205 [.int (vx_i x1)] h P := by
  refine vx_enter (ml := 1) (by decide +kernel) ?_
  show vx_W _ _ 0 [some (.int (vx_i x1))] [] h _
  refine vx_iload_n (n := 0) (q := 1) (by decide +kernel) rfl ?_
  obtain ⟨k1, H⟩ := H
  refine vx_tsw (dd := 269) (lo := 33) (hi := 95) (offs := #[267, 269, 269, 269, 267, 269, 269, 267, 267, 267, 267, 267, 267, 267, 267, 269, 269, 269, 269, 269, 269, 269, 269, 269, 269, 269, 269, 267, 267, 267, 267, 269, 269, 269, 269, 269, 269, 269, 269, 269, 269, 269, 269, 269, 269, 269, 269, 269, 269, 269, 269, 269, 269, 269, 269, 269, 269, 269, 269, 269, 269, 269, 267]) (tl := [(33, 268), (37, 268), (40, 268), (41, 268), (42, 268), (43, 268), (44, 268), (45, 268), (46, 268), (47, 268), (60, 268), (61, 268), (62, 268), (63, 268), (95, 268)]) (td := 270) (q := 268) (by decide +kernel) k1 ⟨fun c2 => ?_, fun c2 => ?_, fun c2 => ?_, fun c2 => ?_, fun c2 => ?_, fun c2 => ?_, fun c2 => ?_, fun c2 => ?_, fun c2 => ?_, fun c2 => ?_, fun c2 => ?_, fun c2 => ?_, fun c2 => ?_, fun c2 => ?_, fun c2 => ?_, trivial⟩ (fun c2 => ?_)
  · replace H := H.1 c2
    refine vx_iconst (n := 1) (q := 269) (by decide +kernel) ?_
    refine vx_retZ (q := 270) (by decide +kernel) (Or.inr rfl) ?_
    exact H
  · replace H := H.2.1 c2
    refine vx_iconst (n := 1) (q := 269) (by decide +kernel) ?_
    refine vx_retZ (q := 270) (by decide +kernel) (Or.inr rfl) ?_
    exact H
  · replace H := H.2.2.1 c2
    refine vx_iconst (n := 1) (q := 269) (by decide +kernel) ?_
    refine vx_retZ (q := 270) (by decide +kernel) (Or.inr rfl) ?_
    exact H
  · replace H := H.2.2.2.1 c2
    refine vx_iconst (n := 1) (q := 269) (by decide +kernel) ?_
    refine vx_retZ (q := 270) (by decide +kernel) (Or.inr rfl) ?_
    exact H
  · replace H := H.2.2.2.2.1 c2
    refine vx_iconst (n := 1) (q := 269) (by decide +kernel) ?_
    refine vx_retZ (q := 270) (by decide +kernel) (Or.inr rfl) ?_
    exact H
  · replace H := H.2.2.2.2.2.1 c2
    refine vx_iconst (n := 1) (q := 269) (by decide +kernel) ?_
    refine vx_retZ (q := 270) (by decide +kernel) (Or.inr rfl) ?_
    exact H
  · replace H := H.2.2.2.2.2.2.1 c2
    refine vx_iconst (n := 1) (q := 269) (by decide +kernel) ?_
    refine vx_retZ (q := 270) (by decide +kernel) (Or.inr rfl) ?_
    exact H
  · replace H := H.2.2.2.2.2.2.2.1 c2
    refine vx_iconst (n := 1) (q := 269) (by decide +kernel) ?_
    refine vx_retZ (q := 270) (by decide +kernel) (Or.inr rfl) ?_
    exact H
  · replace H := H.2.2.2.2.2.2.2.2.1 c2
    refine vx_iconst (n := 1) (q := 269) (by decide +kernel) ?_
    refine vx_retZ (q := 270) (by decide +kernel) (Or.inr rfl) ?_
    exact H
  · replace H := H.2.2.2.2.2.2.2.2.2.1 c2
    refine vx_iconst (n := 1) (q := 269) (by decide +kernel) ?_
    refine vx_retZ (q := 270) (by decide +kernel) (Or.inr rfl) ?_
    exact H
  · replace H := H.2.2.2.2.2.2.2.2.2.2.1 c2
    refine vx_iconst (n := 1) (q := 269) (by decide +kernel) ?_
    refine vx_retZ (q := 270) (by decide +kernel) (Or.inr rfl) ?_
    exact H
  · replace H := H.2.2.2.2.2.2.2.2.2.2.2.1 c2
    refine vx_iconst (n := 1) (q := 269) (by decide +kernel) ?_
    refine vx_retZ (q := 270) (by decide +kernel) (Or.inr rfl) ?_
    exact H
  · replace H := H.2.2.2.2.2.2.2.2.2.2.2.2.1 c2
    refine vx_iconst (n := 1) (q := 269) (by decide +kernel) ?_
    refine vx_retZ (q := 270) (by decide +kernel) (Or.inr rfl) ?_
    exact H
  · replace H := H.2.2.2.2.2.2.2.2.2.2.2.2.2.1 c2
    refine vx_iconst (n := 1) (q := 269) (by decide +kernel) ?_
    refine vx_retZ (q := 270) (by decide +kernel) (Or.inr rfl) ?_
    exact H
  · replace H := H.2.2.2.2.2.2.2.2.2.2.2.2.2.2.1 c2
    refine vx_iconst (n := 1) (q := 269) (by decide +kernel) ?_
    refine vx_retZ (q := 270) (by decide +kernel) (Or.inr rfl) ?_
    exact H
  · replace H := H.2.2.2.2.2.2.2.2.2.2.2.2.2.2.2 c2
    refine vx_iconst (n := 0) (q := 271) (by decide +kernel) ?_
    refine vx_retZ (q := 272) (by decide +kernel) (Or.inl rfl) ?_
    exact H
-- RuleHouse$Tape.isSmall(I)Z
theorem vg_206 {d : Nat} {h : ve_H} {P : Int → ve_H → Prop} {x1 : Int} (hT : vx_T 1 625 h) (H : (vx_rI x1) ∧ ((x1 < 97 → P 0 h) ∧ (97 ≤ x1 → ((122 < x1 → P 0 h) ∧ (x1 ≤ 122 → P 1 h))))) : vx_CI d 206 [.int (vx_i x1)] h P := by
  refine vx_enter (ml := 1) (by decide +kernel) ?_
  show vx_W _ _ 0 [some (.int (vx_i x1))] [] h _
  refine vx_iload_n (n := 0) (q := 1) (by decide +kernel) rfl ?_
  refine vx_bipush (n := 97) (q := 3) (by decide +kernel) ?_
  obtain ⟨k1, H⟩ := H
  refine vx_icmp_lt (off := 13) (q := 6) (t := 16) (by decide +kernel) k1 (by decide) (fun c2 => ?_) (fun c2 => ?_)
  · replace H := H.1 c2
    refine vx_iconst (n := 0) (q := 17) (by decide +kernel) ?_
    refine vx_retZ (q := 18) (by decide +kernel) (Or.inl rfl) ?_
    exact H
  · replace H := H.2 c2
    refine vx_iload_n (n := 0) (q := 7) (by decide +kernel) rfl ?_
    refine vx_bipush (n := 122) (q := 9) (by decide +kernel) ?_
    refine vx_icmp_gt (off := 7) (q := 12) (t := 16) (by decide +kernel) k1 (by decide) (fun c3 => ?_) (fun c3 => ?_)
    · replace H := H.1 c3
      refine vx_iconst (n := 0) (q := 17) (by decide +kernel) ?_
      refine vx_retZ (q := 18) (by decide +kernel) (Or.inl rfl) ?_
      exact H
    · replace H := H.2 c3
      refine vx_iconst (n := 1) (q := 13) (by decide +kernel) ?_
      refine vx_goto (off := 4) (q := 16) (t := 17) (by decide +kernel) ?_
      refine vx_retZ (q := 18) (by decide +kernel) (Or.inr rfl) ?_
      exact H
-- RuleHouse$Tape.isGreat(I)Z
theorem vg_207 {d : Nat} {h : ve_H} {P : Int → ve_H → Prop} {x1 : Int} (hT : vx_T 1 625 h) (H : (vx_rI x1) ∧ ((x1 < 65 → P 0 h) ∧ (65 ≤ x1 → ((90 < x1 → P 0 h) ∧ (x1 ≤ 90 → P 1 h))))) : vx_CI d 207 [.int (vx_i x1)] h P := by
  refine vx_enter (ml := 1) (by decide +kernel) ?_
  show vx_W _ _ 0 [some (.int (vx_i x1))] [] h _
  refine vx_iload_n (n := 0) (q := 1) (by decide +kernel) rfl ?_
  refine vx_bipush (n := 65) (q := 3) (by decide +kernel) ?_
  obtain ⟨k1, H⟩ := H
  refine vx_icmp_lt (off := 13) (q := 6) (t := 16) (by decide +kernel) k1 (by decide) (fun c2 => ?_) (fun c2 => ?_)
  · replace H := H.1 c2
    refine vx_iconst (n := 0) (q := 17) (by decide +kernel) ?_
    refine vx_retZ (q := 18) (by decide +kernel) (Or.inl rfl) ?_
    exact H
  · replace H := H.2 c2
    refine vx_iload_n (n := 0) (q := 7) (by decide +kernel) rfl ?_
    refine vx_bipush (n := 90) (q := 9) (by decide +kernel) ?_
    refine vx_icmp_gt (off := 7) (q := 12) (t := 16) (by decide +kernel) k1 (by decide) (fun c3 => ?_) (fun c3 => ?_)
    · replace H := H.1 c3
      refine vx_iconst (n := 0) (q := 17) (by decide +kernel) ?_
      refine vx_retZ (q := 18) (by decide +kernel) (Or.inl rfl) ?_
      exact H
    · replace H := H.2 c3
      refine vx_iconst (n := 1) (q := 13) (by decide +kernel) ?_
      refine vx_goto (off := 4) (q := 16) (t := 17) (by decide +kernel) ?_
      refine vx_retZ (q := 18) (by decide +kernel) (Or.inr rfl) ?_
      exact H
-- RuleHouse$Tape.isDigit(I)Z
theorem vg_208 {d : Nat} {h : ve_H} {P : Int → ve_H → Prop} {x1 : Int} (hT : vx_T 1 625 h) (H : (vx_rI x1) ∧ ((x1 < 48 → P 0 h) ∧ (48 ≤ x1 → ((57 < x1 → P 0 h) ∧ (x1 ≤ 57 → P 1 h))))) : vx_CI d 208 [.int (vx_i x1)] h P := by
  refine vx_enter (ml := 1) (by decide +kernel) ?_
  show vx_W _ _ 0 [some (.int (vx_i x1))] [] h _
  refine vx_iload_n (n := 0) (q := 1) (by decide +kernel) rfl ?_
  refine vx_bipush (n := 48) (q := 3) (by decide +kernel) ?_
  obtain ⟨k1, H⟩ := H
  refine vx_icmp_lt (off := 13) (q := 6) (t := 16) (by decide +kernel) k1 (by decide) (fun c2 => ?_) (fun c2 => ?_)
  · replace H := H.1 c2
    refine vx_iconst (n := 0) (q := 17) (by decide +kernel) ?_
    refine vx_retZ (q := 18) (by decide +kernel) (Or.inl rfl) ?_
    exact H
  · replace H := H.2 c2
    refine vx_iload_n (n := 0) (q := 7) (by decide +kernel) rfl ?_
    refine vx_bipush (n := 57) (q := 9) (by decide +kernel) ?_
    refine vx_icmp_gt (off := 7) (q := 12) (t := 16) (by decide +kernel) k1 (by decide) (fun c3 => ?_) (fun c3 => ?_)
    · replace H := H.1 c3
      refine vx_iconst (n := 0) (q := 17) (by decide +kernel) ?_
      refine vx_retZ (q := 18) (by decide +kernel) (Or.inl rfl) ?_
      exact H
    · replace H := H.2 c3
      refine vx_iconst (n := 1) (q := 13) (by decide +kernel) ?_
      refine vx_goto (off := 4) (q := 16) (t := 17) (by decide +kernel) ?_
      refine vx_retZ (q := 18) (by decide +kernel) (Or.inr rfl) ?_
      exact H
