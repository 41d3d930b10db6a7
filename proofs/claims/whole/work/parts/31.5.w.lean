/-! Printed by my own program (wip/whole/gen_seg.py): walks of methods 42,45-48,50-56,58 -/
-- RuleHouseModel.readArguments(ZZ)Z
theorem vg_42 {d : Nat} {h : ve_H} {P : Int → ve_H → Prop} {x1 : Int} {x2 : Int} (hT : vx_T 625 672 h) (H : (0 ≤ (vx_J h 625 10) ∧ (vx_J h 625 10) < 602) ∧ (((vx_J h 627 (vx_J h 625 10).toNat) ≠ 1 → vx_CI d 33 [.ref 625] h (fun r3 h3 => vx_T 625 672 h3 → (r3 = 0 ∨ r3 = 1) ∧ P r3 h3)) ∧ ((vx_J h 627 (vx_J h 625 10).toNat) = 1 → (((vx_J h 625 49) = 0 → vx_W (d + 1) 42 60 [some (.ref 625), some (.int (vx_i x1)), some (.int (vx_i x2)), some (.int (vx_i (vx_J h 625 10))), none] [] h (vx_RI P)) ∧ ((vx_J h 625 49) ≠ 0 → (0 ≤ (vx_J h 625 10) ∧ (vx_J h 625 10) < 602) ∧ vx_CI d 41 [.ref 625, .long (vx_l (vx_K h 630 (vx_J h 625 10).toNat))] h (fun r7 h7 => vx_T 625 672 h7 → ((r7 ≠ 0 → vx_W (d + 1) 42 60 [some (.ref 625), some (.int (vx_i x1)), some (.int (vx_i x2)), some (.int (vx_i (vx_J h 625 10))), none] [] h7 (vx_RI P)) ∧ (r7 = 0 → (0 ≤ (vx_J h7 625 48) ∧ (vx_J h7 625 48) < 2) ∧ (((vx_J h7 631 (vx_J h7 625 48).toNat) ≠ 16 → vx_W (d + 1) 42 60 [some (.ref 625), some (.int (vx_i x1)), some (.int (vx_i x2)), some (.int (vx_i (vx_J h 625 10))), none] [] h7 (vx_RI P)) ∧ ((vx_J h7 631 (vx_J h7 625 48).toNat) = 16 → vx_CI d 33 [.ref 625] h7 (fun r11 h11 => vx_T 625 672 h11 → (r11 = 0 ∨ r11 = 1) ∧ P r11 h11))))))))))) : vx_CI (d + 1) 42 [.ref 625, .int (vx_i x1), .int (vx_i x2)] h P := by
  refine vx_enter (ml := 5) (by decide +kernel) ?_
  show vx_W _ _ 0 [some (.ref 625), some (.int (vx_i x1)), some (.int (vx_i x2)), none, none] [] h _
  refine vx_aload_n (n := 0) (q := 1) (by decide +kernel) rfl ?_
  refine vx_getI (idx := 207) (kd := 9) (s := 10) (fin := false) (q := 4) (by decide +kernel) (vx_Tk hT (by decide +kernel)) ?_
  refine vx_istore_n (n := 3) (q := 5) (lv' := [some (.ref 625), some (.int (vx_i x1)), some (.int (vx_i x2)), some (.int (vx_i (vx_J h 625 10))), none]) (by decide +kernel) rfl ?_
  refine vx_aload_n (n := 0) (q := 6) (by decide +kernel) rfl ?_
  refine vx_getR (b := 627) (idx := 13) (kd := 9) (s := 6) (fin := true) (q := 9) (by decide +kernel) (vx_Tk hT (by decide +kernel)) (vx_Tr hT (kd := 9) (by decide +kernel) (by decide +kernel) (by decide +kernel)) ?_
  refine vx_aload_n (n := 0) (q := 10) (by decide +kernel) rfl ?_
  refine vx_getI (idx := 207) (kd := 9) (s := 10) (fin := false) (q := 13) (by decide +kernel) (vx_Tk hT (by decide +kernel)) ?_
  obtain ⟨k1, H⟩ := H
  refine vx_iaload (z := 602) (q := 14) (by decide +kernel) (vx_Tk hT (by decide +kernel)) (vx_Tz hT (by decide +kernel)) (vx_ix k1 (by decide)) ?_
  refine vx_iconst (n := 1) (q := 15) (by decide +kernel) ?_
  refine vx_icmp_ne (off := 40) (q := 18) (t := 55) (by decide +kernel) (vx_rI_J h 627 (vx_J h 625 10).toNat) (by decide) (fun c2 => ?_) (fun c2 => ?_)
  · replace H := H.1 c2
    refine vx_aload_n (n := 0) (q := 56) (by decide +kernel) rfl ?_
    refine vx_callI (i := .invokevirtual 219) (how := 3) (cm := 33) (np := 1) (q := 59) (args := [.ref 625]) (rest := []) (by decide +kernel) rfl rfl rfl (vx_w2 (w := 1) (ml := 1) rfl (by decide +kernel)) (vx_rcv (kd := 9) (vx_Tk hT (by decide +kernel)) (by decide +kernel)) H (fun r3 h3 hr3 hs3 H => ?_)
    have hT3 := vx_Tsh hT hs3
    replace H := H hT3
    obtain ⟨k4, H⟩ := H
    refine vx_retZ (q := 60) (by decide +kernel) k4 ?_
    exact H
  · replace H := H.2 c2
    refine vx_aload_n (n := 0) (q := 19) (by decide +kernel) rfl ?_
    refine vx_getZ (idx := 245) (kd := 9) (s := 49) (fin := false) (q := 22) (by decide +kernel) (vx_Tk hT (by decide +kernel)) ?_
    refine vx_if0_eq (off := 38) (q := 25) (t := 60) (by decide +kernel) (vx_rI_J h 625 49) (fun c5 => ?_) (fun c5 => ?_)
    · replace H := H.1 c5
      exact H
    · replace H := H.2 c5
      refine vx_aload_n (n := 0) (q := 26) (by decide +kernel) rfl ?_
      refine vx_aload_n (n := 0) (q := 27) (by decide +kernel) rfl ?_
      refine vx_getR (b := 630) (idx := 22) (kd := 9) (s := 9) (fin := true) (q := 30) (by decide +kernel) (vx_Tk hT (by decide +kernel)) (vx_Tr hT (kd := 9) (by decide +kernel) (by decide +kernel) (by decide +kernel)) ?_
      refine vx_aload_n (n := 0) (q := 31) (by decide +kernel) rfl ?_
      refine vx_getI (idx := 207) (kd := 9) (s := 10) (fin := false) (q := 34) (by decide +kernel) (vx_Tk hT (by decide +kernel)) ?_
      obtain ⟨k6, H⟩ := H
      refine vx_laload (z := 602) (q := 35) (by decide +kernel) (vx_Tk hT (by decide +kernel)) (vx_Tz hT (by decide +kernel)) (vx_ix k6 (by decide)) ?_
      refine vx_callI (i := .invokevirtual 249) (how := 3) (cm := 41) (np := 2) (q := 38) (args := [.ref 625, .long (vx_l (vx_K h 630 (vx_J h 625 10).toNat))]) (rest := []) (by decide +kernel) rfl rfl rfl (vx_w2 (w := 3) (ml := 4) rfl (by decide +kernel)) (vx_rcv (kd := 9) (vx_Tk hT (by decide +kernel)) (by decide +kernel)) H (fun r7 h7 hr7 hs7 H => ?_)
      have hT7 := vx_Tsh hT hs7
      replace H := H hT7
      refine vx_if0_ne (off := 22) (q := 41) (t := 60) (by decide +kernel) hr7 (fun c8 => ?_) (fun c8 => ?_)
      · replace H := H.1 c8
        exact H
      · replace H := H.2 c8
        refine vx_aload_n (n := 0) (q := 42) (by decide +kernel) rfl ?_
        refine vx_getR (b := 631) (idx := 26) (kd := 9) (s := 12) (fin := true) (q := 45) (by decide +kernel) (vx_Tk hT7 (by decide +kernel)) (vx_Tr hT7 (kd := 9) (by decide +kernel) (by decide +kernel) (by decide +kernel)) ?_
        refine vx_aload_n (n := 0) (q := 46) (by decide +kernel) rfl ?_
        refine vx_getI (idx := 238) (kd := 9) (s := 48) (fin := false) (q := 49) (by decide +kernel) (vx_Tk hT7 (by decide +kernel)) ?_
        obtain ⟨k9, H⟩ := H
        refine vx_iaload (z := 2) (q := 50) (by decide +kernel) (vx_Tk hT7 (by decide +kernel)) (vx_Tz hT7 (by decide +kernel)) (vx_ix k9 (by decide)) ?_
        refine vx_bipush (n := 16) (q := 52) (by decide +kernel) ?_
        refine vx_icmp_ne (off := 8) (q := 55) (t := 60) (by decide +kernel) (vx_rI_J h7 631 (vx_J h7 625 48).toNat) (by decide) (fun c10 => ?_) (fun c10 => ?_)
        · replace H := H.1 c10
          exact H
        · replace H := H.2 c10
          refine vx_aload_n (n := 0) (q := 56) (by decide +kernel) rfl ?_
          refine vx_callI (i := .invokevirtual 219) (how := 3) (cm := 33) (np := 1) (q := 59) (args := [.ref 625]) (rest := []) (by decide +kernel) rfl rfl rfl (vx_w2 (w := 1) (ml := 1) rfl (by decide +kernel)) (vx_rcv (kd := 9) (vx_Tk hT7 (by decide +kernel)) (by decide +kernel)) H (fun r11 h11 hr11 hs11 H => ?_)
          have hT11 := vx_Tsh hT7 hs11
          replace H := H hT11
          obtain ⟨k12, H⟩ := H
          refine vx_retZ (q := 60) (by decide +kernel) k12 ?_
          exact H
theorem vg_42_60 {d : Nat} {h : ve_H} {P : Int → ve_H → Prop} {v1 : Int} {v2 : Int} {v3 : Int} (hT : vx_T 625 672 h) (H : (∀ h1, h1 = vx_sJ h 625 10 ((vx_J h 625 10) + 1) → vx_T 625 672 h1 → (∀ h2, h2 = vx_sJ h1 625 50 0 → vx_T 625 672 h2 → vx_CI d 36 [.ref 625, .int (vx_i 40)] h2 (fun r3 h3 => vx_T 625 672 h3 → ((r3 ≠ 0 → vx_W (d + 1) 42 86 [some (.ref 625), some (.int (vx_i v1)), some (.int (vx_i v2)), some (.int (vx_i v3)), none] [] h3 (vx_RI P)) ∧ (r3 = 0 → P 0 h3)))))) : vx_W (d + 1) 42 60 [some (.ref 625), some (.int (vx_i v1)), some (.int (vx_i v2)), some (.int (vx_i v3)), none] [] h (vx_RI P) := by
  refine vx_aload_n (n := 0) (q := 61) (by decide +kernel) rfl ?_
  refine vx_dupR (q := 62) (by decide +kernel) ?_
  refine vx_getI (idx := 207) (kd := 9) (s := 10) (fin := false) (q := 65) (by decide +kernel) (vx_Tk hT (by decide +kernel)) ?_
  refine vx_iconst (n := 1) (q := 66) (by decide +kernel) ?_
  refine vx_iadd (q := 67) (by decide +kernel) ?_
  refine vx_putI (idx := 207) (kd := 9) (s := 10) (fin := false) (q := 70) (by decide +kernel) (vx_Tk hT (by decide +kernel)) (fun h1 e1 => ?_)
  have hT1 := vx_TJ hT e1
  replace H := H h1 e1 hT1
  refine vx_aload_n (n := 0) (q := 71) (by decide +kernel) rfl ?_
  refine vx_iconst (n := 0) (q := 72) (by decide +kernel) ?_
  refine vx_putI (idx := 253) (kd := 9) (s := 50) (fin := false) (q := 75) (by decide +kernel) (vx_Tk hT1 (by decide +kernel)) (fun h2 e2 => ?_)
  have hT2 := vx_TJ hT1 e2
  replace H := H h2 e2 hT2
  refine vx_aload_n (n := 0) (q := 76) (by decide +kernel) rfl ?_
  refine vx_bipush (n := 40) (q := 78) (by decide +kernel) ?_
  refine vx_callI (i := .invokevirtual 256) (how := 3) (cm := 36) (np := 2) (q := 81) (args := [.ref 625, .int (vx_i 40)]) (rest := []) (by decide +kernel) rfl rfl rfl (vx_w2 (w := 2) (ml := 2) rfl (by decide +kernel)) (vx_rcv (kd := 9) (vx_Tk hT2 (by decide +kernel)) (by decide +kernel)) H (fun r3 h3 hr3 hs3 H => ?_)
  have hT3 := vx_Tsh hT2 hs3
  replace H := H hT3
  refine vx_if0_ne (off := 5) (q := 84) (t := 86) (by decide +kernel) hr3 (fun c4 => ?_) (fun c4 => ?_)
  · replace H := H.1 c4
    exact H
  · replace H := H.2 c4
    refine vx_iconst (n := 0) (q := 85) (by decide +kernel) ?_
    refine vx_retZ (q := 86) (by decide +kernel) (Or.inl rfl) ?_
    exact H
theorem vg_42_86 {d : Nat} {h : ve_H} {P : Int → ve_H → Prop} {v1 : Int} {v2 : Int} {v3 : Int} {v4 : Option Value} (hT : vx_T 625 672 h) (H : (((vx_J h 625 50) ≠ 4 → (0 ≤ (vx_J h 625 10) ∧ (vx_J h 625 10) < 602) ∧ (vx_rI v1) ∧ ((v1 = 0 → vx_W (d + 1) 42 255 [some (.ref 625), some (.int (vx_i v1)), some (.int (vx_i v2)), some (.int (vx_i v3)), some (.int (vx_i (vx_J h 628 (vx_J h 625 10).toNat)))] [] h (vx_RI P)) ∧ (v1 ≠ 0 → (0 ≤ (vx_J h 625 10) ∧ (vx_J h 625 10) < 602) ∧ (((vx_J h 627 (vx_J h 625 10).toNat) ≠ 5 → vx_W (d + 1) 42 255 [some (.ref 625), some (.int (vx_i v1)), some (.int (vx_i v2)), some (.int (vx_i v3)), some (.int (vx_i (vx_J h 628 (vx_J h 625 10).toNat)))] [] h (vx_RI P)) ∧ ((vx_J h 627 (vx_J h 625 10).toNat) = 5 → (0 ≤ (vx_J h 625 10) ∧ (vx_J h 625 10) < 602) ∧ (((vx_J h 629 (vx_J h 625 10).toNat) ≤ 1 → vx_W (d + 1) 42 255 [some (.ref 625), some (.int (vx_i v1)), some (.int (vx_i v2)), some (.int (vx_i v3)), some (.int (vx_i (vx_J h 628 (vx_J h 625 10).toNat)))] [] h (vx_RI P)) ∧ (1 < (vx_J h 629 (vx_J h 625 10).toNat) → (((vx_J h 625 54) ≠ 0 → vx_W (d + 1) 42 255 [some (.ref 625), some (.int (vx_i v1)), some (.int (vx_i v2)), some (.int (vx_i v3)), some (.int (vx_i (vx_J h 628 (vx_J h 625 10).toNat)))] [] h (vx_RI P)) ∧ ((vx_J h 625 54) = 0 → (0 ≤ (vx_J h 625 10) ∧ (vx_J h 625 10) < 602) ∧ (∀ h11, h11 = vx_sJ h 625 54 (vx_J h 629 (vx_J h 625 10).toNat) → vx_T 625 672 h11 → (∀ h12, h12 = vx_sJ h11 625 55 (vx_J h11 625 50) → vx_T 625 672 h12 → (∀ h13, h13 = vx_sJ h12 625 56 (vx_J h 628 (vx_J h 625 10).toNat) → vx_T 625 672 h13 → (∀ h14, h14 = vx_sJ h13 625 10 ((vx_J h13 625 10) + 1) → vx_T 625 672 h14 → vx_CI d 36 [.ref 625, .int (vx_i 40)] h14 (fun r15 h15 => vx_T 625 672 h15 → ((r15 ≠ 0 → (0 ≤ (vx_J h15 625 10) ∧ (vx_J h15 625 10) < 602) ∧ (((vx_J h15 627 (vx_J h15 625 10).toNat) = 2 → vx_CI d 38 [.ref 625] h15 (fun r19 h19 => vx_T 625 672 h19 → ((r19 = 0 → P 0 h19) ∧ (r19 ≠ 0 → vx_CI d 36 [.ref 625, .int (vx_i 41)] h19 (fun r21 h21 => vx_T 625 672 h21 → ((r21 ≠ 0 → (((vx_J h21 625 53) ≠ ((-1)) → (∀ h24, h24 = vx_sJ h21 625 53 (vx_J h21 625 53) → vx_T 625 672 h24 → vx_W (d + 1) 42 317 [some (.ref 625), some (.int (vx_i v1)), some (.int (vx_i v2)), some (.int (vx_i v3)), some (.int (vx_i (vx_J h 628 (vx_J h 625 10).toNat)))] [] h24 (vx_RI P))) ∧ ((vx_J h21 625 53) = ((-1)) → (∀ h25, h25 = vx_sJ h21 625 53 (vx_J h 628 (vx_J h 625 10).toNat) → vx_T 625 672 h25 → vx_W (d + 1) 42 317 [some (.ref 625), some (.int (vx_i v1)), some (.int (vx_i v2)), some (.int (vx_i v3)), some (.int (vx_i (vx_J h 628 (vx_J h 625 10).toNat)))] [] h25 (vx_RI P))))) ∧ (r21 = 0 → P 0 h21))))))) ∧ ((vx_J h15 627 (vx_J h15 625 10).toNat) ≠ 2 → vx_CI d 33 [.ref 625] h15 (fun r26 h26 => vx_T 625 672 h26 → (r26 = 0 ∨ r26 = 1) ∧ P r26 h26)))) ∧ (r15 = 0 → P 0 h15)))))))))))))))) ∧ ((vx_J h 625 50) = 4 → vx_CI d 33 [.ref 625] h (fun r28 h28 => vx_T 625 672 h28 → (r28 = 0 ∨ r28 = 1) ∧ P r28 h28)))) : vx_W (d + 1) 42 86 [some (.ref 625), some (.int (vx_i v1)), some (.int (vx_i v2)), some (.int (vx_i v3)), v4] [] h (vx_RI P) := by
  refine vx_aload_n (n := 0) (q := 87) (by decide +kernel) rfl ?_
  refine vx_getI (idx := 253) (kd := 9) (s := 50) (fin := false) (q := 90) (by decide +kernel) (vx_Tk hT (by decide +kernel)) ?_
  refine vx_iconst (n := 4) (q := 91) (by decide +kernel) ?_
  refine vx_icmp_ne (off := 8) (q := 94) (t := 99) (by decide +kernel) (vx_rI_J h 625 50) (by decide) (fun c1 => ?_) (fun c1 => ?_)
  · replace H := H.1 c1
    refine vx_aload_n (n := 0) (q := 100) (by decide +kernel) rfl ?_
    refine vx_getR (b := 628) (idx := 16) (kd := 9) (s := 7) (fin := true) (q := 103) (by decide +kernel) (vx_Tk hT (by decide +kernel)) (vx_Tr hT (kd := 9) (by decide +kernel) (by decide +kernel) (by decide +kernel)) ?_
    refine vx_aload_n (n := 0) (q := 104) (by decide +kernel) rfl ?_
    refine vx_getI (idx := 207) (kd := 9) (s := 10) (fin := false) (q := 107) (by decide +kernel) (vx_Tk hT (by decide +kernel)) ?_
    obtain ⟨k2, H⟩ := H
    refine vx_iaload (z := 602) (q := 108) (by decide +kernel) (vx_Tk hT (by decide +kernel)) (vx_Tz hT (by decide +kernel)) (vx_ix k2 (by decide)) ?_
    refine vx_istore (n := 4) (q := 110) (lv' := [some (.ref 625), some (.int (vx_i v1)), some (.int (vx_i v2)), some (.int (vx_i v3)), some (.int (vx_i (vx_J h 628 (vx_J h 625 10).toNat)))]) (by decide +kernel) rfl ?_
    refine vx_iload_n (n := 1) (q := 111) (by decide +kernel) rfl ?_
    obtain ⟨k3, H⟩ := H
    refine vx_if0_eq (off := 144) (q := 114) (t := 255) (by decide +kernel) k3 (fun c4 => ?_) (fun c4 => ?_)
    · replace H := H.1 c4
      exact H
    · replace H := H.2 c4
      refine vx_aload_n (n := 0) (q := 115) (by decide +kernel) rfl ?_
      refine vx_getR (b := 627) (idx := 13) (kd := 9) (s := 6) (fin := true) (q := 118) (by decide +kernel) (vx_Tk hT (by decide +kernel)) (vx_Tr hT (kd := 9) (by decide +kernel) (by decide +kernel) (by decide +kernel)) ?_
      refine vx_aload_n (n := 0) (q := 119) (by decide +kernel) rfl ?_
      refine vx_getI (idx := 207) (kd := 9) (s := 10) (fin := false) (q := 122) (by decide +kernel) (vx_Tk hT (by decide +kernel)) ?_
      obtain ⟨k5, H⟩ := H
      refine vx_iaload (z := 602) (q := 123) (by decide +kernel) (vx_Tk hT (by decide +kernel)) (vx_Tz hT (by decide +kernel)) (vx_ix k5 (by decide)) ?_
      refine vx_iconst (n := 5) (q := 124) (by decide +kernel) ?_
      refine vx_icmp_ne (off := 131) (q := 127) (t := 255) (by decide +kernel) (vx_rI_J h 627 (vx_J h 625 10).toNat) (by decide) (fun c6 => ?_) (fun c6 => ?_)
      · replace H := H.1 c6
        exact H
      · replace H := H.2 c6
        refine vx_aload_n (n := 0) (q := 128) (by decide +kernel) rfl ?_
        refine vx_getR (b := 629) (idx := 19) (kd := 9) (s := 8) (fin := true) (q := 131) (by decide +kernel) (vx_Tk hT (by decide +kernel)) (vx_Tr hT (kd := 9) (by decide +kernel) (by decide +kernel) (by decide +kernel)) ?_
        refine vx_aload_n (n := 0) (q := 132) (by decide +kernel) rfl ?_
        refine vx_getI (idx := 207) (kd := 9) (s := 10) (fin := false) (q := 135) (by decide +kernel) (vx_Tk hT (by decide +kernel)) ?_
        obtain ⟨k7, H⟩ := H
        refine vx_iaload (z := 602) (q := 136) (by decide +kernel) (vx_Tk hT (by decide +kernel)) (vx_Tz hT (by decide +kernel)) (vx_ix k7 (by decide)) ?_
        refine vx_iconst (n := 1) (q := 137) (by decide +kernel) ?_
        refine vx_icmp_le (off := 118) (q := 140) (t := 255) (by decide +kernel) (vx_rI_J h 629 (vx_J h 625 10).toNat) (by decide) (fun c8 => ?_) (fun c8 => ?_)
        · replace H := H.1 c8
          exact H
        · replace H := H.2 c8
          refine vx_aload_n (n := 0) (q := 141) (by decide +kernel) rfl ?_
          refine vx_getI (idx := 259) (kd := 9) (s := 54) (fin := false) (q := 144) (by decide +kernel) (vx_Tk hT (by decide +kernel)) ?_
          refine vx_if0_ne (off := 111) (q := 147) (t := 255) (by decide +kernel) (vx_rI_J h 625 54) (fun c9 => ?_) (fun c9 => ?_)
          · replace H := H.1 c9
            exact H
          · replace H := H.2 c9
            refine vx_aload_n (n := 0) (q := 148) (by decide +kernel) rfl ?_
            refine vx_aload_n (n := 0) (q := 149) (by decide +kernel) rfl ?_
            refine vx_getR (b := 629) (idx := 19) (kd := 9) (s := 8) (fin := true) (q := 152) (by decide +kernel) (vx_Tk hT (by decide +kernel)) (vx_Tr hT (kd := 9) (by decide +kernel) (by decide +kernel) (by decide +kernel)) ?_
            refine vx_aload_n (n := 0) (q := 153) (by decide +kernel) rfl ?_
            refine vx_getI (idx := 207) (kd := 9) (s := 10) (fin := false) (q := 156) (by decide +kernel) (vx_Tk hT (by decide +kernel)) ?_
            obtain ⟨k10, H⟩ := H
            refine vx_iaload (z := 602) (q := 157) (by decide +kernel) (vx_Tk hT (by decide +kernel)) (vx_Tz hT (by decide +kernel)) (vx_ix k10 (by decide)) ?_
            refine vx_putI (idx := 259) (kd := 9) (s := 54) (fin := false) (q := 160) (by decide +kernel) (vx_Tk hT (by decide +kernel)) (fun h11 e11 => ?_)
            have hT11 := vx_TJ hT e11
            replace H := H h11 e11 hT11
            refine vx_aload_n (n := 0) (q := 161) (by decide +kernel) rfl ?_
            refine vx_aload_n (n := 0) (q := 162) (by decide +kernel) rfl ?_
            refine vx_getI (idx := 253) (kd := 9) (s := 50) (fin := false) (q := 165) (by decide +kernel) (vx_Tk hT11 (by decide +kernel)) ?_
            refine vx_putI (idx := 262) (kd := 9) (s := 55) (fin := false) (q := 168) (by decide +kernel) (vx_Tk hT11 (by decide +kernel)) (fun h12 e12 => ?_)
            have hT12 := vx_TJ hT11 e12
            replace H := H h12 e12 hT12
            refine vx_aload_n (n := 0) (q := 169) (by decide +kernel) rfl ?_
            refine vx_iload (n := 4) (q := 171) (by decide +kernel) rfl ?_
            refine vx_putI (idx := 265) (kd := 9) (s := 56) (fin := false) (q := 174) (by decide +kernel) (vx_Tk hT12 (by decide +kernel)) (fun h13 e13 => ?_)
            have hT13 := vx_TJ hT12 e13
            replace H := H h13 e13 hT13
            refine vx_aload_n (n := 0) (q := 175) (by decide +kernel) rfl ?_
            refine vx_dupR (q := 176) (by decide +kernel) ?_
            refine vx_getI (idx := 207) (kd := 9) (s := 10) (fin := false) (q := 179) (by decide +kernel) (vx_Tk hT13 (by decide +kernel)) ?_
            refine vx_iconst (n := 1) (q := 180) (by decide +kernel) ?_
            refine vx_iadd (q := 181) (by decide +kernel) ?_
            refine vx_putI (idx := 207) (kd := 9) (s := 10) (fin := false) (q := 184) (by decide +kernel) (vx_Tk hT13 (by decide +kernel)) (fun h14 e14 => ?_)
            have hT14 := vx_TJ hT13 e14
            replace H := H h14 e14 hT14
            refine vx_aload_n (n := 0) (q := 185) (by decide +kernel) rfl ?_
            refine vx_bipush (n := 40) (q := 187) (by decide +kernel) ?_
            refine vx_callI (i := .invokevirtual 256) (how := 3) (cm := 36) (np := 2) (q := 190) (args := [.ref 625, .int (vx_i 40)]) (rest := []) (by decide +kernel) rfl rfl rfl (vx_w2 (w := 2) (ml := 2) rfl (by decide +kernel)) (vx_rcv (kd := 9) (vx_Tk hT14 (by decide +kernel)) (by decide +kernel)) H (fun r15 h15 hr15 hs15 H => ?_)
            have hT15 := vx_Tsh hT14 hs15
            replace H := H hT15
            refine vx_if0_ne (off := 5) (q := 193) (t := 195) (by decide +kernel) hr15 (fun c16 => ?_) (fun c16 => ?_)
            · replace H := H.1 c16
              refine vx_aload_n (n := 0) (q := 196) (by decide +kernel) rfl ?_
              refine vx_getR (b := 627) (idx := 13) (kd := 9) (s := 6) (fin := true) (q := 199) (by decide +kernel) (vx_Tk hT15 (by decide +kernel)) (vx_Tr hT15 (kd := 9) (by decide +kernel) (by decide +kernel) (by decide +kernel)) ?_
              refine vx_aload_n (n := 0) (q := 200) (by decide +kernel) rfl ?_
              refine vx_getI (idx := 207) (kd := 9) (s := 10) (fin := false) (q := 203) (by decide +kernel) (vx_Tk hT15 (by decide +kernel)) ?_
              obtain ⟨k17, H⟩ := H
              refine vx_iaload (z := 602) (q := 204) (by decide +kernel) (vx_Tk hT15 (by decide +kernel)) (vx_Tz hT15 (by decide +kernel)) (vx_ix k17 (by decide)) ?_
              refine vx_iconst (n := 2) (q := 205) (by decide +kernel) ?_
              refine vx_icmp_eq (off := 8) (q := 208) (t := 213) (by decide +kernel) (vx_rI_J h15 627 (vx_J h15 625 10).toNat) (by decide) (fun c18 => ?_) (fun c18 => ?_)
              · replace H := H.1 c18
                refine vx_aload_n (n := 0) (q := 214) (by decide +kernel) rfl ?_
                refine vx_callI (i := .invokevirtual 233) (how := 3) (cm := 38) (np := 1) (q := 217) (args := [.ref 625]) (rest := []) (by decide +kernel) rfl rfl rfl (vx_w2 (w := 1) (ml := 2) rfl (by decide +kernel)) (vx_rcv (kd := 9) (vx_Tk hT15 (by decide +kernel)) (by decide +kernel)) H (fun r19 h19 hr19 hs19 H => ?_)
                have hT19 := vx_Tsh hT15 hs19
                replace H := H hT19
                refine vx_if0_eq (off := 12) (q := 220) (t := 229) (by decide +kernel) hr19 (fun c20 => ?_) (fun c20 => ?_)
                · replace H := H.1 c20
                  refine vx_iconst (n := 0) (q := 230) (by decide +kernel) ?_
                  refine vx_retZ (q := 231) (by decide +kernel) (Or.inl rfl) ?_
                  exact H
                · replace H := H.2 c20
                  refine vx_aload_n (n := 0) (q := 221) (by decide +kernel) rfl ?_
                  refine vx_bipush (n := 41) (q := 223) (by decide +kernel) ?_
                  refine vx_callI (i := .invokevirtual 256) (how := 3) (cm := 36) (np := 2) (q := 226) (args := [.ref 625, .int (vx_i 41)]) (rest := []) (by decide +kernel) rfl rfl rfl (vx_w2 (w := 2) (ml := 2) rfl (by decide +kernel)) (vx_rcv (kd := 9) (vx_Tk hT19 (by decide +kernel)) (by decide +kernel)) H (fun r21 h21 hr21 hs21 H => ?_)
                  have hT21 := vx_Tsh hT19 hs21
                  replace H := H hT21
                  refine vx_if0_ne (off := 5) (q := 229) (t := 231) (by decide +kernel) hr21 (fun c22 => ?_) (fun c22 => ?_)
                  · replace H := H.1 c22
                    refine vx_aload_n (n := 0) (q := 232) (by decide +kernel) rfl ?_
                    refine vx_aload_n (n := 0) (q := 233) (by decide +kernel) rfl ?_
                    refine vx_getI (idx := 268) (kd := 9) (s := 53) (fin := false) (q := 236) (by decide +kernel) (vx_Tk hT21 (by decide +kernel)) ?_
                    refine vx_iconst (n := (-1)) (q := 237) (by decide +kernel) ?_
                    refine vx_icmp_ne (off := 8) (q := 240) (t := 245) (by decide +kernel) (vx_rI_J h21 625 53) (by decide) (fun c23 => ?_) (fun c23 => ?_)
                    · replace H := H.1 c23
                      refine vx_aload_n (n := 0) (q := 246) (by decide +kernel) rfl ?_
                      refine vx_getI (idx := 268) (kd := 9) (s := 53) (fin := false) (q := 249) (by decide +kernel) (vx_Tk hT21 (by decide +kernel)) ?_
                      refine vx_putI (idx := 268) (kd := 9) (s := 53) (fin := false) (q := 252) (by decide +kernel) (vx_Tk hT21 (by decide +kernel)) (fun h24 e24 => ?_)
                      have hT24 := vx_TJ hT21 e24
                      replace H := H h24 e24 hT24
                      refine vx_goto (off := 65) (q := 255) (t := 317) (by decide +kernel) ?_
                      exact H
                    · replace H := H.2 c23
                      refine vx_iload (n := 4) (q := 242) (by decide +kernel) rfl ?_
                      refine vx_goto (off := 7) (q := 245) (t := 249) (by decide +kernel) ?_
                      refine vx_putI (idx := 268) (kd := 9) (s := 53) (fin := false) (q := 252) (by decide +kernel) (vx_Tk hT21 (by decide +kernel)) (fun h25 e25 => ?_)
                      have hT25 := vx_TJ hT21 e25
                      replace H := H h25 e25 hT25
                      refine vx_goto (off := 65) (q := 255) (t := 317) (by decide +kernel) ?_
                      exact H
                  · replace H := H.2 c22
                    refine vx_iconst (n := 0) (q := 230) (by decide +kernel) ?_
                    refine vx_retZ (q := 231) (by decide +kernel) (Or.inl rfl) ?_
                    exact H
              · replace H := H.2 c18
                refine vx_aload_n (n := 0) (q := 209) (by decide +kernel) rfl ?_
                refine vx_callI (i := .invokevirtual 219) (how := 3) (cm := 33) (np := 1) (q := 212) (args := [.ref 625]) (rest := []) (by decide +kernel) rfl rfl rfl (vx_w2 (w := 1) (ml := 1) rfl (by decide +kernel)) (vx_rcv (kd := 9) (vx_Tk hT15 (by decide +kernel)) (by decide +kernel)) H (fun r26 h26 hr26 hs26 H => ?_)
                have hT26 := vx_Tsh hT15 hs26
                replace H := H hT26
                obtain ⟨k27, H⟩ := H
                refine vx_retZ (q := 213) (by decide +kernel) k27 ?_
                exact H
            · replace H := H.2 c16
              refine vx_iconst (n := 0) (q := 194) (by decide +kernel) ?_
              refine vx_retZ (q := 195) (by decide +kernel) (Or.inl rfl) ?_
              exact H
  · replace H := H.2 c1
    refine vx_aload_n (n := 0) (q := 95) (by decide +kernel) rfl ?_
    refine vx_callI (i := .invokevirtual 219) (how := 3) (cm := 33) (np := 1) (q := 98) (args := [.ref 625]) (rest := []) (by decide +kernel) rfl rfl rfl (vx_w2 (w := 1) (ml := 1) rfl (by decide +kernel)) (vx_rcv (kd := 9) (vx_Tk hT (by decide +kernel)) (by decide +kernel)) H (fun r28 h28 hr28 hs28 H => ?_)
    have hT28 := vx_Tsh hT hs28
    replace H := H hT28
    obtain ⟨k29, H⟩ := H
    refine vx_retZ (q := 99) (by decide +kernel) k29 ?_
    exact H
theorem vg_42_255 {d : Nat} {h : ve_H} {P : Int → ve_H → Prop} {v1 : Int} {v2 : Int} {v3 : Int} {v4 : Int} (hT : vx_T 625 672 h) (H : (vx_rI v2) ∧ ((v2 = 0 → vx_CI d 39 [.ref 625] h (fun r3 h3 => vx_T 625 672 h3 → ((r3 ≠ 0 → (((vx_J h3 625 46) ≠ 1 → vx_W (d + 1) 42 317 [some (.ref 625), some (.int (vx_i v1)), some (.int (vx_i v2)), some (.int (vx_i v3)), some (.int (vx_i v4))] [] h3 (vx_RI P)) ∧ ((vx_J h3 625 46) = 1 → (((vx_J h3 625 53) ≠ ((-1)) → vx_W (d + 1) 42 317 [some (.ref 625), some (.int (vx_i v1)), some (.int (vx_i v2)), some (.int (vx_i v3)), some (.int (vx_i v4))] [] h3 (vx_RI P)) ∧ ((vx_J h3 625 53) = ((-1)) → (∀ h7, h7 = vx_sJ h3 625 53 v4 → vx_T 625 672 h7 → vx_W (d + 1) 42 317 [some (.ref 625), some (.int (vx_i v1)), some (.int (vx_i v2)), some (.int (vx_i v3)), some (.int (vx_i v4))] [] h7 (vx_RI P))))))) ∧ (r3 = 0 → P 0 h3)))) ∧ (v2 ≠ 0 → vx_CI d 34 [.ref 625, .int (vx_i 95)] h (fun r8 h8 => vx_T 625 672 h8 → ((r8 = 0 → vx_CI d 39 [.ref 625] h8 (fun r10 h10 => vx_T 625 672 h10 → ((r10 ≠ 0 → (((vx_J h10 625 46) ≠ 1 → vx_W (d + 1) 42 317 [some (.ref 625), some (.int (vx_i v1)), some (.int (vx_i v2)), some (.int (vx_i v3)), some (.int (vx_i v4))] [] h10 (vx_RI P)) ∧ ((vx_J h10 625 46) = 1 → (((vx_J h10 625 53) ≠ ((-1)) → vx_W (d + 1) 42 317 [some (.ref 625), some (.int (vx_i v1)), some (.int (vx_i v2)), some (.int (vx_i v3)), some (.int (vx_i v4))] [] h10 (vx_RI P)) ∧ ((vx_J h10 625 53) = ((-1)) → (∀ h14, h14 = vx_sJ h10 625 53 v4 → vx_T 625 672 h14 → vx_W (d + 1) 42 317 [some (.ref 625), some (.int (vx_i v1)), some (.int (vx_i v2)), some (.int (vx_i v3)), some (.int (vx_i v4))] [] h14 (vx_RI P))))))) ∧ (r10 = 0 → P 0 h10)))) ∧ (r8 ≠ 0 → (∀ h15, h15 = vx_sJ h8 625 10 ((vx_J h8 625 10) + 1) → vx_T 625 672 h15 → (∀ h16, h16 = vx_sJ h15 625 46 2 → vx_T 625 672 h16 → vx_W (d + 1) 42 317 [some (.ref 625), some (.int (vx_i v1)), some (.int (vx_i v2)), some (.int (vx_i v3)), some (.int (vx_i v4))] [] h16 (vx_RI P))))))))) : vx_W (d + 1) 42 255 [some (.ref 625), some (.int (vx_i v1)), some (.int (vx_i v2)), some (.int (vx_i v3)), some (.int (vx_i v4))] [] h (vx_RI P) := by
  refine vx_iload_n (n := 2) (q := 256) (by decide +kernel) rfl ?_
  obtain ⟨k1, H⟩ := H
  refine vx_if0_eq (off := 30) (q := 259) (t := 286) (by decide +kernel) k1 (fun c2 => ?_) (fun c2 => ?_)
  · replace H := H.1 c2
    refine vx_aload_n (n := 0) (q := 287) (by decide +kernel) rfl ?_
    refine vx_callI (i := .invokevirtual 271) (how := 3) (cm := 39) (np := 1) (q := 290) (args := [.ref 625]) (rest := []) (by decide +kernel) rfl rfl rfl (vx_w2 (w := 1) (ml := 2) rfl (by decide +kernel)) (vx_rcv (kd := 9) (vx_Tk hT (by decide +kernel)) (by decide +kernel)) H (fun r3 h3 hr3 hs3 H => ?_)
    have hT3 := vx_Tsh hT hs3
    replace H := H hT3
    refine vx_if0_ne (off := 5) (q := 293) (t := 295) (by decide +kernel) hr3 (fun c4 => ?_) (fun c4 => ?_)
    · replace H := H.1 c4
      refine vx_aload_n (n := 0) (q := 296) (by decide +kernel) rfl ?_
      refine vx_getI (idx := 226) (kd := 9) (s := 46) (fin := false) (q := 299) (by decide +kernel) (vx_Tk hT3 (by decide +kernel)) ?_
      refine vx_iconst (n := 1) (q := 300) (by decide +kernel) ?_
      refine vx_icmp_ne (off := 17) (q := 303) (t := 317) (by decide +kernel) (vx_rI_J h3 625 46) (by decide) (fun c5 => ?_) (fun c5 => ?_)
      · replace H := H.1 c5
        exact H
      · replace H := H.2 c5
        refine vx_aload_n (n := 0) (q := 304) (by decide +kernel) rfl ?_
        refine vx_getI (idx := 268) (kd := 9) (s := 53) (fin := false) (q := 307) (by decide +kernel) (vx_Tk hT3 (by decide +kernel)) ?_
        refine vx_iconst (n := (-1)) (q := 308) (by decide +kernel) ?_
        refine vx_icmp_ne (off := 9) (q := 311) (t := 317) (by decide +kernel) (vx_rI_J h3 625 53) (by decide) (fun c6 => ?_) (fun c6 => ?_)
        · replace H := H.1 c6
          exact H
        · replace H := H.2 c6
          refine vx_aload_n (n := 0) (q := 312) (by decide +kernel) rfl ?_
          refine vx_iload (n := 4) (q := 314) (by decide +kernel) rfl ?_
          refine vx_putI (idx := 268) (kd := 9) (s := 53) (fin := false) (q := 317) (by decide +kernel) (vx_Tk hT3 (by decide +kernel)) (fun h7 e7 => ?_)
          have hT7 := vx_TJ hT3 e7
          replace H := H h7 e7 hT7
          exact H
    · replace H := H.2 c4
      refine vx_iconst (n := 0) (q := 294) (by decide +kernel) ?_
      refine vx_retZ (q := 295) (by decide +kernel) (Or.inl rfl) ?_
      exact H
  · replace H := H.2 c2
    refine vx_aload_n (n := 0) (q := 260) (by decide +kernel) rfl ?_
    refine vx_bipush (n := 95) (q := 262) (by decide +kernel) ?_
    refine vx_callI (i := .invokevirtual 213) (how := 3) (cm := 34) (np := 2) (q := 265) (args := [.ref 625, .int (vx_i 95)]) (rest := []) (by decide +kernel) rfl rfl rfl (vx_w2 (w := 2) (ml := 2) rfl (by decide +kernel)) (vx_rcv (kd := 9) (vx_Tk hT (by decide +kernel)) (by decide +kernel)) H (fun r8 h8 hr8 hs8 H => ?_)
    have hT8 := vx_Tsh hT hs8
    replace H := H hT8
    refine vx_if0_eq (off := 21) (q := 268) (t := 286) (by decide +kernel) hr8 (fun c9 => ?_) (fun c9 => ?_)
    · replace H := H.1 c9
      refine vx_aload_n (n := 0) (q := 287) (by decide +kernel) rfl ?_
      refine vx_callI (i := .invokevirtual 271) (how := 3) (cm := 39) (np := 1) (q := 290) (args := [.ref 625]) (rest := []) (by decide +kernel) rfl rfl rfl (vx_w2 (w := 1) (ml := 2) rfl (by decide +kernel)) (vx_rcv (kd := 9) (vx_Tk hT8 (by decide +kernel)) (by decide +kernel)) H (fun r10 h10 hr10 hs10 H => ?_)
      have hT10 := vx_Tsh hT8 hs10
      replace H := H hT10
      refine vx_if0_ne (off := 5) (q := 293) (t := 295) (by decide +kernel) hr10 (fun c11 => ?_) (fun c11 => ?_)
      · replace H := H.1 c11
        refine vx_aload_n (n := 0) (q := 296) (by decide +kernel) rfl ?_
        refine vx_getI (idx := 226) (kd := 9) (s := 46) (fin := false) (q := 299) (by decide +kernel) (vx_Tk hT10 (by decide +kernel)) ?_
        refine vx_iconst (n := 1) (q := 300) (by decide +kernel) ?_
        refine vx_icmp_ne (off := 17) (q := 303) (t := 317) (by decide +kernel) (vx_rI_J h10 625 46) (by decide) (fun c12 => ?_) (fun c12 => ?_)
        · replace H := H.1 c12
          exact H
        · replace H := H.2 c12
          refine vx_aload_n (n := 0) (q := 304) (by decide +kernel) rfl ?_
          refine vx_getI (idx := 268) (kd := 9) (s := 53) (fin := false) (q := 307) (by decide +kernel) (vx_Tk hT10 (by decide +kernel)) ?_
          refine vx_iconst (n := (-1)) (q := 308) (by decide +kernel) ?_
          refine vx_icmp_ne (off := 9) (q := 311) (t := 317) (by decide +kernel) (vx_rI_J h10 625 53) (by decide) (fun c13 => ?_) (fun c13 => ?_)
          · replace H := H.1 c13
            exact H
          · replace H := H.2 c13
            refine vx_aload_n (n := 0) (q := 312) (by decide +kernel) rfl ?_
            refine vx_iload (n := 4) (q := 314) (by decide +kernel) rfl ?_
            refine vx_putI (idx := 268) (kd := 9) (s := 53) (fin := false) (q := 317) (by decide +kernel) (vx_Tk hT10 (by decide +kernel)) (fun h14 e14 => ?_)
            have hT14 := vx_TJ hT10 e14
            replace H := H h14 e14 hT14
            exact H
      · replace H := H.2 c11
        refine vx_iconst (n := 0) (q := 294) (by decide +kernel) ?_
        refine vx_retZ (q := 295) (by decide +kernel) (Or.inl rfl) ?_
        exact H
    · replace H := H.2 c9
      refine vx_aload_n (n := 0) (q := 269) (by decide +kernel) rfl ?_
      refine vx_dupR (q := 270) (by decide +kernel) ?_
      refine vx_getI (idx := 207) (kd := 9) (s := 10) (fin := false) (q := 273) (by decide +kernel) (vx_Tk hT8 (by decide +kernel)) ?_
      refine vx_iconst (n := 1) (q := 274) (by decide +kernel) ?_
      refine vx_iadd (q := 275) (by decide +kernel) ?_
      refine vx_putI (idx := 207) (kd := 9) (s := 10) (fin := false) (q := 278) (by decide +kernel) (vx_Tk hT8 (by decide +kernel)) (fun h15 e15 => ?_)
      have hT15 := vx_TJ hT8 e15
      replace H := H h15 e15 hT15
      refine vx_aload_n (n := 0) (q := 279) (by decide +kernel) rfl ?_
      refine vx_iconst (n := 2) (q := 280) (by decide +kernel) ?_
      refine vx_putI (idx := 226) (kd := 9) (s := 46) (fin := false) (q := 283) (by decide +kernel) (vx_Tk hT15 (by decide +kernel)) (fun h16 e16 => ?_)
      have hT16 := vx_TJ hT15 e16
      replace H := H h16 e16 hT16
      refine vx_goto (off := 34) (q := 286) (t := 317) (by decide +kernel) ?_
      exact H
theorem vg_42_317 {d : Nat} {h : ve_H} {P : Int → ve_H → Prop} {v1 : Int} {v2 : Int} {v3 : Int} {v4 : Int} (hT : vx_T 625 672 h) (H : (0 ≤ (vx_J h 625 50) ∧ (vx_J h 625 50) < 4) ∧ (∀ h2, h2 = vx_sJ h 658 (vx_J h 625 50).toNat (vx_J h 625 46) → vx_T 625 672 h2 → (0 ≤ (vx_J h2 625 50) ∧ (vx_J h2 625 50) < 4) ∧ (∀ h4, h4 = vx_sK h2 659 (vx_J h2 625 50).toNat (vx_K h2 625 47) → vx_T 625 672 h4 → (∀ h5, h5 = vx_sJ h4 625 50 ((vx_J h4 625 50) + 1) → vx_T 625 672 h5 → vx_CI d 35 [.ref 625, .int (vx_i 44)] h5 (fun r6 h6 => vx_T 625 672 h6 → ((r6 ≠ 0 → vx_W (d + 1) 42 86 [some (.ref 625), some (.int (vx_i v1)), some (.int (vx_i v2)), some (.int (vx_i v3)), some (.int (vx_i v4))] [] h6 (vx_RI P)) ∧ (r6 = 0 → vx_CI d 36 [.ref 625, .int (vx_i 41)] h6 (fun r8 h8 => vx_T 625 672 h8 → ((r8 ≠ 0 → (0 ≤ v3 ∧ v3 < 602) ∧ (0 ≤ v3 ∧ v3 < 602) ∧ vx_CI d 40 [.ref 625, .long (vx_l (vx_K h8 630 v3.toNat)), .int (vx_i (vx_J h8 625 50)), .int (vx_i (vx_J h8 628 v3.toNat)), .int (vx_i (vx_J h8 625 49))] h8 (fun r12 h12 => vx_T 625 672 h12 → (∀ h13, h13 = vx_sJ h12 625 57 r12 → vx_T 625 672 h13 → P 1 h13))) ∧ (r8 = 0 → P 0 h8)))))))))) : vx_W (d + 1) 42 317 [some (.ref 625), some (.int (vx_i v1)), some (.int (vx_i v2)), some (.int (vx_i v3)), some (.int (vx_i v4))] [] h (vx_RI P) := by
  refine vx_aload_n (n := 0) (q := 318) (by decide +kernel) rfl ?_
  refine vx_getR (b := 658) (idx := 112) (kd := 9) (s := 51) (fin := true) (q := 321) (by decide +kernel) (vx_Tk hT (by decide +kernel)) (vx_Tr hT (kd := 9) (by decide +kernel) (by decide +kernel) (by decide +kernel)) ?_
  refine vx_aload_n (n := 0) (q := 322) (by decide +kernel) rfl ?_
  refine vx_getI (idx := 253) (kd := 9) (s := 50) (fin := false) (q := 325) (by decide +kernel) (vx_Tk hT (by decide +kernel)) ?_
  refine vx_aload_n (n := 0) (q := 326) (by decide +kernel) rfl ?_
  refine vx_getI (idx := 226) (kd := 9) (s := 46) (fin := false) (q := 329) (by decide +kernel) (vx_Tk hT (by decide +kernel)) ?_
  obtain ⟨k1, H⟩ := H
  refine vx_iastore (z := 4) (q := 330) (by decide +kernel) (vx_Tk hT (by decide +kernel)) (vx_Tz hT (by decide +kernel)) (vx_ix k1 (by decide)) (fun h2 e2 => ?_)
  have hT2 := vx_TJ hT e2
  replace H := H h2 e2 hT2
  refine vx_aload_n (n := 0) (q := 331) (by decide +kernel) rfl ?_
  refine vx_getR (b := 659) (idx := 115) (kd := 9) (s := 52) (fin := true) (q := 334) (by decide +kernel) (vx_Tk hT2 (by decide +kernel)) (vx_Tr hT2 (kd := 9) (by decide +kernel) (by decide +kernel) (by decide +kernel)) ?_
  refine vx_aload_n (n := 0) (q := 335) (by decide +kernel) rfl ?_
  refine vx_getI (idx := 253) (kd := 9) (s := 50) (fin := false) (q := 338) (by decide +kernel) (vx_Tk hT2 (by decide +kernel)) ?_
  refine vx_aload_n (n := 0) (q := 339) (by decide +kernel) rfl ?_
  refine vx_getL (idx := 229) (kd := 9) (s := 47) (fin := false) (q := 342) (by decide +kernel) (vx_Tk hT2 (by decide +kernel)) ?_
  obtain ⟨k3, H⟩ := H
  refine vx_lastore (z := 4) (q := 343) (by decide +kernel) (vx_Tk hT2 (by decide +kernel)) (vx_Tz hT2 (by decide +kernel)) (vx_ix k3 (by decide)) (fun h4 e4 => ?_)
  have hT4 := vx_TK hT2 e4
  replace H := H h4 e4 hT4
  refine vx_aload_n (n := 0) (q := 344) (by decide +kernel) rfl ?_
  refine vx_dupR (q := 345) (by decide +kernel) ?_
  refine vx_getI (idx := 253) (kd := 9) (s := 50) (fin := false) (q := 348) (by decide +kernel) (vx_Tk hT4 (by decide +kernel)) ?_
  refine vx_iconst (n := 1) (q := 349) (by decide +kernel) ?_
  refine vx_iadd (q := 350) (by decide +kernel) ?_
  refine vx_putI (idx := 253) (kd := 9) (s := 50) (fin := false) (q := 353) (by decide +kernel) (vx_Tk hT4 (by decide +kernel)) (fun h5 e5 => ?_)
  have hT5 := vx_TJ hT4 e5
  replace H := H h5 e5 hT5
  refine vx_aload_n (n := 0) (q := 354) (by decide +kernel) rfl ?_
  refine vx_bipush (n := 44) (q := 356) (by decide +kernel) ?_
  refine vx_callI (i := .invokevirtual 216) (how := 3) (cm := 35) (np := 2) (q := 359) (args := [.ref 625, .int (vx_i 44)]) (rest := []) (by decide +kernel) rfl rfl rfl (vx_w2 (w := 2) (ml := 2) rfl (by decide +kernel)) (vx_rcv (kd := 9) (vx_Tk hT5 (by decide +kernel)) (by decide +kernel)) H (fun r6 h6 hr6 hs6 H => ?_)
  have hT6 := vx_Tsh hT5 hs6
  replace H := H hT6
  refine vx_if0_ne (off := (-273)) (q := 362) (t := 86) (by decide +kernel) hr6 (fun c7 => ?_) (fun c7 => ?_)
  · replace H := H.1 c7
    exact H
  · replace H := H.2 c7
    refine vx_aload_n (n := 0) (q := 363) (by decide +kernel) rfl ?_
    refine vx_bipush (n := 41) (q := 365) (by decide +kernel) ?_
    refine vx_callI (i := .invokevirtual 256) (how := 3) (cm := 36) (np := 2) (q := 368) (args := [.ref 625, .int (vx_i 41)]) (rest := []) (by decide +kernel) rfl rfl rfl (vx_w2 (w := 2) (ml := 2) rfl (by decide +kernel)) (vx_rcv (kd := 9) (vx_Tk hT6 (by decide +kernel)) (by decide +kernel)) H (fun r8 h8 hr8 hs8 H => ?_)
    have hT8 := vx_Tsh hT6 hs8
    replace H := H hT8
    refine vx_if0_ne (off := 5) (q := 371) (t := 373) (by decide +kernel) hr8 (fun c9 => ?_) (fun c9 => ?_)
    · replace H := H.1 c9
      refine vx_aload_n (n := 0) (q := 374) (by decide +kernel) rfl ?_
      refine vx_aload_n (n := 0) (q := 375) (by decide +kernel) rfl ?_
      refine vx_aload_n (n := 0) (q := 376) (by decide +kernel) rfl ?_
      refine vx_getR (b := 630) (idx := 22) (kd := 9) (s := 9) (fin := true) (q := 379) (by decide +kernel) (vx_Tk hT8 (by decide +kernel)) (vx_Tr hT8 (kd := 9) (by decide +kernel) (by decide +kernel) (by decide +kernel)) ?_
      refine vx_iload_n (n := 3) (q := 380) (by decide +kernel) rfl ?_
      obtain ⟨k10, H⟩ := H
      refine vx_laload (z := 602) (q := 381) (by decide +kernel) (vx_Tk hT8 (by decide +kernel)) (vx_Tz hT8 (by decide +kernel)) (vx_ix k10 (by decide)) ?_
      refine vx_aload_n (n := 0) (q := 382) (by decide +kernel) rfl ?_
      refine vx_getI (idx := 253) (kd := 9) (s := 50) (fin := false) (q := 385) (by decide +kernel) (vx_Tk hT8 (by decide +kernel)) ?_
      refine vx_aload_n (n := 0) (q := 386) (by decide +kernel) rfl ?_
      refine vx_getR (b := 628) (idx := 16) (kd := 9) (s := 7) (fin := true) (q := 389) (by decide +kernel) (vx_Tk hT8 (by decide +kernel)) (vx_Tr hT8 (kd := 9) (by decide +kernel) (by decide +kernel) (by decide +kernel)) ?_
      refine vx_iload_n (n := 3) (q := 390) (by decide +kernel) rfl ?_
      obtain ⟨k11, H⟩ := H
      refine vx_iaload (z := 602) (q := 391) (by decide +kernel) (vx_Tk hT8 (by decide +kernel)) (vx_Tz hT8 (by decide +kernel)) (vx_ix k11 (by decide)) ?_
      refine vx_aload_n (n := 0) (q := 392) (by decide +kernel) rfl ?_
      refine vx_getZ (idx := 245) (kd := 9) (s := 49) (fin := false) (q := 395) (by decide +kernel) (vx_Tk hT8 (by decide +kernel)) ?_
      refine vx_callI (i := .invokevirtual 274) (how := 3) (cm := 40) (np := 5) (q := 398) (args := [.ref 625, .long (vx_l (vx_K h8 630 v3.toNat)), .int (vx_i (vx_J h8 625 50)), .int (vx_i (vx_J h8 628 v3.toNat)), .int (vx_i (vx_J h8 625 49))]) (rest := [.ref 625]) (by decide +kernel) rfl rfl rfl (vx_w2 (w := 6) (ml := 8) rfl (by decide +kernel)) (vx_rcv (kd := 9) (vx_Tk hT8 (by decide +kernel)) (by decide +kernel)) H (fun r12 h12 hr12 hs12 H => ?_)
      have hT12 := vx_Tsh hT8 hs12
      replace H := H hT12
      refine vx_putI (idx := 278) (kd := 9) (s := 57) (fin := false) (q := 401) (by decide +kernel) (vx_Tk hT12 (by decide +kernel)) (fun h13 e13 => ?_)
      have hT13 := vx_TJ hT12 e13
      replace H := H h13 e13 hT13
      refine vx_iconst (n := 1) (q := 402) (by decide +kernel) ?_
      refine vx_retZ (q := 403) (by decide +kernel) (Or.inr rfl) ?_
      exact H
    · replace H := H.2 c9
      refine vx_iconst (n := 0) (q := 372) (by decide +kernel) ?_
      refine vx_retZ (q := 373) (by decide +kernel) (Or.inl rfl) ?_
      exact H
-- RuleHouseModel.readLiteral()Z
theorem vg_45 {d : Nat} {h : ve_H} {P : Int → ve_H → Prop}  (hT : vx_T 625 672 h) (H : (0 ≤ (vx_J h 625 42) ∧ (vx_J h 625 42) < 61) ∧ (((vx_J h 641 (vx_J h 625 42).toNat) ≠ 6 → (0 ≤ (vx_J h 625 42) ∧ (vx_J h 625 42) < 61) ∧ vx_CI d 34 [.ref 625, .int (vx_i 33)] h (fun r4 h4 => vx_T 625 672 h4 → ((r4 ≠ 0 → vx_W (d + 1) 45 98 [some (.ref 625), some (.int (vx_i ((6 * (vx_J h 625 42)) + (vx_J h 641 (vx_J h 625 42).toNat)))), some (.int (vx_i r4)), some (.int (vx_i 1)), none, none] [] h4 (vx_RI P)) ∧ (r4 = 0 → (0 ≤ (vx_J h4 625 10) ∧ (vx_J h4 625 10) < 602) ∧ (((vx_J h4 627 (vx_J h4 625 10).toNat) ≠ 1 → vx_W (d + 1) 45 98 [some (.ref 625), some (.int (vx_i ((6 * (vx_J h 625 42)) + (vx_J h 641 (vx_J h 625 42).toNat)))), some (.int (vx_i r4)), some (.int (vx_i 0)), none, none] [] h4 (vx_RI P)) ∧ ((vx_J h4 627 (vx_J h4 625 10).toNat) = 1 → (0 ≤ ((vx_J h4 625 10) + 1) ∧ ((vx_J h4 625 10) + 1) < 602) ∧ (((vx_J h4 627 ((vx_J h4 625 10) + 1).toNat) ≠ 4 → vx_W (d + 1) 45 98 [some (.ref 625), some (.int (vx_i ((6 * (vx_J h 625 42)) + (vx_J h 641 (vx_J h 625 42).toNat)))), some (.int (vx_i r4)), some (.int (vx_i 0)), none, none] [] h4 (vx_RI P)) ∧ ((vx_J h4 627 ((vx_J h4 625 10) + 1).toNat) = 4 → (0 ≤ ((vx_J h4 625 10) + 1) ∧ ((vx_J h4 625 10) + 1) < 602) ∧ (((vx_J h4 629 ((vx_J h4 625 10) + 1).toNat) ≠ 40 → vx_W (d + 1) 45 98 [some (.ref 625), some (.int (vx_i ((6 * (vx_J h 625 42)) + (vx_J h 641 (vx_J h 625 42).toNat)))), some (.int (vx_i r4)), some (.int (vx_i 0)), none, none] [] h4 (vx_RI P)) ∧ ((vx_J h4 629 ((vx_J h4 625 10) + 1).toNat) = 40 → vx_W (d + 1) 45 98 [some (.ref 625), some (.int (vx_i ((6 * (vx_J h 625 42)) + (vx_J h 641 (vx_J h 625 42).toNat)))), some (.int (vx_i r4)), some (.int (vx_i 1)), none, none] [] h4 (vx_RI P))))))))))) ∧ ((vx_J h 641 (vx_J h 625 42).toNat) = 6 → vx_CI d 33 [.ref 625] h (fun r12 h12 => vx_T 625 672 h12 → (r12 = 0 ∨ r12 = 1) ∧ P r12 h12)))) : vx_CI (d + 1) 45 [.ref 625] h P := by
  refine vx_enter (ml := 6) (by decide +kernel) ?_
  show vx_W _ _ 0 [some (.ref 625), none, none, none, none, none] [] h _
  refine vx_aload_n (n := 0) (q := 1) (by decide +kernel) rfl ?_
  refine vx_getR (b := 641) (idx := 56) (kd := 9) (s := 22) (fin := true) (q := 4) (by decide +kernel) (vx_Tk hT (by decide +kernel)) (vx_Tr hT (kd := 9) (by decide +kernel) (by decide +kernel) (by decide +kernel)) ?_
  refine vx_aload_n (n := 0) (q := 5) (by decide +kernel) rfl ?_
  refine vx_getI (idx := 223) (kd := 9) (s := 42) (fin := false) (q := 8) (by decide +kernel) (vx_Tk hT (by decide +kernel)) ?_
  obtain ⟨k1, H⟩ := H
  refine vx_iaload (z := 61) (q := 9) (by decide +kernel) (vx_Tk hT (by decide +kernel)) (vx_Tz hT (by decide +kernel)) (vx_ix k1 (by decide)) ?_
  refine vx_bipush (n := 6) (q := 11) (by decide +kernel) ?_
  refine vx_icmp_ne (off := 8) (q := 14) (t := 19) (by decide +kernel) (vx_rI_J h 641 (vx_J h 625 42).toNat) (by decide) (fun c2 => ?_) (fun c2 => ?_)
  · replace H := H.1 c2
    refine vx_bipush (n := 6) (q := 21) (by decide +kernel) ?_
    refine vx_aload_n (n := 0) (q := 22) (by decide +kernel) rfl ?_
    refine vx_getI (idx := 223) (kd := 9) (s := 42) (fin := false) (q := 25) (by decide +kernel) (vx_Tk hT (by decide +kernel)) ?_
    refine vx_imul (q := 26) (by decide +kernel) ?_
    refine vx_aload_n (n := 0) (q := 27) (by decide +kernel) rfl ?_
    refine vx_getR (b := 641) (idx := 56) (kd := 9) (s := 22) (fin := true) (q := 30) (by decide +kernel) (vx_Tk hT (by decide +kernel)) (vx_Tr hT (kd := 9) (by decide +kernel) (by decide +kernel) (by decide +kernel)) ?_
    refine vx_aload_n (n := 0) (q := 31) (by decide +kernel) rfl ?_
    refine vx_getI (idx := 223) (kd := 9) (s := 42) (fin := false) (q := 34) (by decide +kernel) (vx_Tk hT (by decide +kernel)) ?_
    obtain ⟨k3, H⟩ := H
    refine vx_iaload (z := 61) (q := 35) (by decide +kernel) (vx_Tk hT (by decide +kernel)) (vx_Tz hT (by decide +kernel)) (vx_ix k3 (by decide)) ?_
    refine vx_iadd (q := 36) (by decide +kernel) ?_
    refine vx_istore_n (n := 1) (q := 37) (lv' := [some (.ref 625), some (.int (vx_i ((6 * (vx_J h 625 42)) + (vx_J h 641 (vx_J h 625 42).toNat)))), none, none, none, none]) (by decide +kernel) rfl ?_
    refine vx_aload_n (n := 0) (q := 38) (by decide +kernel) rfl ?_
    refine vx_bipush (n := 33) (q := 40) (by decide +kernel) ?_
    refine vx_callI (i := .invokevirtual 213) (how := 3) (cm := 34) (np := 2) (q := 43) (args := [.ref 625, .int (vx_i 33)]) (rest := []) (by decide +kernel) rfl rfl rfl (vx_w2 (w := 2) (ml := 2) rfl (by decide +kernel)) (vx_rcv (kd := 9) (vx_Tk hT (by decide +kernel)) (by decide +kernel)) H (fun r4 h4 hr4 hs4 H => ?_)
    have hT4 := vx_Tsh hT hs4
    replace H := H hT4
    refine vx_istore_n (n := 2) (q := 44) (lv' := [some (.ref 625), some (.int (vx_i ((6 * (vx_J h 625 42)) + (vx_J h 641 (vx_J h 625 42).toNat)))), some (.int (vx_i r4)), none, none, none]) (by decide +kernel) rfl ?_
    refine vx_iload_n (n := 2) (q := 45) (by decide +kernel) rfl ?_
    refine vx_if0_ne (off := 47) (q := 48) (t := 92) (by decide +kernel) hr4 (fun c5 => ?_) (fun c5 => ?_)
    · replace H := H.1 c5
      refine vx_iconst (n := 1) (q := 93) (by decide +kernel) ?_
      refine vx_goto (off := 4) (q := 96) (t := 97) (by decide +kernel) ?_
      refine vx_istore_n (n := 3) (q := 98) (lv' := [some (.ref 625), some (.int (vx_i ((6 * (vx_J h 625 42)) + (vx_J h 641 (vx_J h 625 42).toNat)))), some (.int (vx_i r4)), some (.int (vx_i 1)), none, none]) (by decide +kernel) rfl ?_
      exact H
    · replace H := H.2 c5
      refine vx_aload_n (n := 0) (q := 49) (by decide +kernel) rfl ?_
      refine vx_getR (b := 627) (idx := 13) (kd := 9) (s := 6) (fin := true) (q := 52) (by decide +kernel) (vx_Tk hT4 (by decide +kernel)) (vx_Tr hT4 (kd := 9) (by decide +kernel) (by decide +kernel) (by decide +kernel)) ?_
      refine vx_aload_n (n := 0) (q := 53) (by decide +kernel) rfl ?_
      refine vx_getI (idx := 207) (kd := 9) (s := 10) (fin := false) (q := 56) (by decide +kernel) (vx_Tk hT4 (by decide +kernel)) ?_
      obtain ⟨k6, H⟩ := H
      refine vx_iaload (z := 602) (q := 57) (by decide +kernel) (vx_Tk hT4 (by decide +kernel)) (vx_Tz hT4 (by decide +kernel)) (vx_ix k6 (by decide)) ?_
      refine vx_iconst (n := 1) (q := 58) (by decide +kernel) ?_
      refine vx_icmp_ne (off := 38) (q := 61) (t := 96) (by decide +kernel) (vx_rI_J h4 627 (vx_J h4 625 10).toNat) (by decide) (fun c7 => ?_) (fun c7 => ?_)
      · replace H := H.1 c7
        refine vx_iconst (n := 0) (q := 97) (by decide +kernel) ?_
        refine vx_istore_n (n := 3) (q := 98) (lv' := [some (.ref 625), some (.int (vx_i ((6 * (vx_J h 625 42)) + (vx_J h 641 (vx_J h 625 42).toNat)))), some (.int (vx_i r4)), some (.int (vx_i 0)), none, none]) (by decide +kernel) rfl ?_
        exact H
      · replace H := H.2 c7
        refine vx_aload_n (n := 0) (q := 62) (by decide +kernel) rfl ?_
        refine vx_getR (b := 627) (idx := 13) (kd := 9) (s := 6) (fin := true) (q := 65) (by decide +kernel) (vx_Tk hT4 (by decide +kernel)) (vx_Tr hT4 (kd := 9) (by decide +kernel) (by decide +kernel) (by decide +kernel)) ?_
        refine vx_aload_n (n := 0) (q := 66) (by decide +kernel) rfl ?_
        refine vx_getI (idx := 207) (kd := 9) (s := 10) (fin := false) (q := 69) (by decide +kernel) (vx_Tk hT4 (by decide +kernel)) ?_
        refine vx_iconst (n := 1) (q := 70) (by decide +kernel) ?_
        refine vx_iadd (q := 71) (by decide +kernel) ?_
        obtain ⟨k8, H⟩ := H
        refine vx_iaload (z := 602) (q := 72) (by decide +kernel) (vx_Tk hT4 (by decide +kernel)) (vx_Tz hT4 (by decide +kernel)) (vx_ix k8 (by decide)) ?_
        refine vx_iconst (n := 4) (q := 73) (by decide +kernel) ?_
        refine vx_icmp_ne (off := 23) (q := 76) (t := 96) (by decide +kernel) (vx_rI_J h4 627 ((vx_J h4 625 10) + 1).toNat) (by decide) (fun c9 => ?_) (fun c9 => ?_)
        · replace H := H.1 c9
          refine vx_iconst (n := 0) (q := 97) (by decide +kernel) ?_
          refine vx_istore_n (n := 3) (q := 98) (lv' := [some (.ref 625), some (.int (vx_i ((6 * (vx_J h 625 42)) + (vx_J h 641 (vx_J h 625 42).toNat)))), some (.int (vx_i r4)), some (.int (vx_i 0)), none, none]) (by decide +kernel) rfl ?_
          exact H
        · replace H := H.2 c9
          refine vx_aload_n (n := 0) (q := 77) (by decide +kernel) rfl ?_
          refine vx_getR (b := 629) (idx := 19) (kd := 9) (s := 8) (fin := true) (q := 80) (by decide +kernel) (vx_Tk hT4 (by decide +kernel)) (vx_Tr hT4 (kd := 9) (by decide +kernel) (by decide +kernel) (by decide +kernel)) ?_
          refine vx_aload_n (n := 0) (q := 81) (by decide +kernel) rfl ?_
          refine vx_getI (idx := 207) (kd := 9) (s := 10) (fin := false) (q := 84) (by decide +kernel) (vx_Tk hT4 (by decide +kernel)) ?_
          refine vx_iconst (n := 1) (q := 85) (by decide +kernel) ?_
          refine vx_iadd (q := 86) (by decide +kernel) ?_
          obtain ⟨k10, H⟩ := H
          refine vx_iaload (z := 602) (q := 87) (by decide +kernel) (vx_Tk hT4 (by decide +kernel)) (vx_Tz hT4 (by decide +kernel)) (vx_ix k10 (by decide)) ?_
          refine vx_bipush (n := 40) (q := 89) (by decide +kernel) ?_
          refine vx_icmp_ne (off := 7) (q := 92) (t := 96) (by decide +kernel) (vx_rI_J h4 629 ((vx_J h4 625 10) + 1).toNat) (by decide) (fun c11 => ?_) (fun c11 => ?_)
          · replace H := H.1 c11
            refine vx_iconst (n := 0) (q := 97) (by decide +kernel) ?_
            refine vx_istore_n (n := 3) (q := 98) (lv' := [some (.ref 625), some (.int (vx_i ((6 * (vx_J h 625 42)) + (vx_J h 641 (vx_J h 625 42).toNat)))), some (.int (vx_i r4)), some (.int (vx_i 0)), none, none]) (by decide +kernel) rfl ?_
            exact H
          · replace H := H.2 c11
            refine vx_iconst (n := 1) (q := 93) (by decide +kernel) ?_
            refine vx_goto (off := 4) (q := 96) (t := 97) (by decide +kernel) ?_
            refine vx_istore_n (n := 3) (q := 98) (lv' := [some (.ref 625), some (.int (vx_i ((6 * (vx_J h 625 42)) + (vx_J h 641 (vx_J h 625 42).toNat)))), some (.int (vx_i r4)), some (.int (vx_i 1)), none, none]) (by decide +kernel) rfl ?_
            exact H
  · replace H := H.2 c2
    refine vx_aload_n (n := 0) (q := 15) (by decide +kernel) rfl ?_
    refine vx_callI (i := .invokevirtual 219) (how := 3) (cm := 33) (np := 1) (q := 18) (args := [.ref 625]) (rest := []) (by decide +kernel) rfl rfl rfl (vx_w2 (w := 1) (ml := 1) rfl (by decide +kernel)) (vx_rcv (kd := 9) (vx_Tk hT (by decide +kernel)) (by decide +kernel)) H (fun r12 h12 hr12 hs12 H => ?_)
    have hT12 := vx_Tsh hT hs12
    replace H := H hT12
    obtain ⟨k13, H⟩ := H
    refine vx_retZ (q := 19) (by decide +kernel) k13 ?_
    exact H
theorem vg_45_98 {d : Nat} {h : ve_H} {P : Int → ve_H → Prop} {v1 : Int} {v2 : Int} {v3 : Int} (hT : vx_T 625 672 h) (H : (0 ≤ (vx_J h 625 10) ∧ (vx_J h 625 10) < 602) ∧ (0 ≤ v1 ∧ v1 < 366) ∧ (∀ h3, h3 = vx_sJ h 660 v1.toNat (vx_J h 628 (vx_J h 625 10).toNat) → vx_T 625 672 h3 → (vx_rI v3) ∧ ((v3 = 0 → (0 ≤ (vx_J h3 625 10) ∧ (vx_J h3 625 10) < 602) ∧ (((vx_J h3 627 (vx_J h3 625 10).toNat) ≠ 2 → vx_CI d 39 [.ref 625] h3 (fun r8 h8 => vx_T 625 672 h8 → ((r8 ≠ 0 → vx_CV d 44 [.ref 625, .int (vx_i v1), .int (vx_i 0)] h8 (fun h10 => vx_T 625 672 h10 → vx_W (d + 1) 45 335 [some (.ref 625), some (.int (vx_i v1)), some (.int (vx_i v2)), some (.int (vx_i v3)), some (.int (vx_i 0)), none] [] h10 (vx_RI P))) ∧ (r8 = 0 → P 0 h8)))) ∧ ((vx_J h3 627 (vx_J h3 625 10).toNat) = 2 → vx_CI d 39 [.ref 625] h3 (fun r11 h11 => vx_T 625 672 h11 → ((r11 ≠ 0 → vx_CV d 44 [.ref 625, .int (vx_i v1), .int (vx_i 0)] h11 (fun h13 => vx_T 625 672 h13 → vx_W (d + 1) 45 335 [some (.ref 625), some (.int (vx_i v1)), some (.int (vx_i v2)), some (.int (vx_i v3)), some (.int (vx_i 1)), none] [] h13 (vx_RI P))) ∧ (r11 = 0 → P 0 h11)))))) ∧ (v3 ≠ 0 → (vx_rI v2) ∧ ((v2 = 0 → (((vx_J h3 625 58) ≠ 3 → vx_W (d + 1) 45 147 [some (.ref 625), some (.int (vx_i v1)), some (.int (vx_i v2)), some (.int (vx_i v3)), none, none] [] h3 (vx_RI P)) ∧ ((vx_J h3 625 58) = 3 → vx_CI d 33 [.ref 625] h3 (fun r17 h17 => vx_T 625 672 h17 → (r17 = 0 ∨ r17 = 1) ∧ P r17 h17)))) ∧ (v2 ≠ 0 → (∀ h19, h19 = vx_sJ h3 625 10 ((vx_J h3 625 10) + 1) → vx_T 625 672 h19 → vx_W (d + 1) 45 147 [some (.ref 625), some (.int (vx_i v1)), some (.int (vx_i v2)), some (.int (vx_i v3)), none, none] [] h19 (vx_RI P)))))))) : vx_W (d + 1) 45 98 [some (.ref 625), some (.int (vx_i v1)), some (.int (vx_i v2)), some (.int (vx_i v3)), none, none] [] h (vx_RI P) := by
  refine vx_aload_n (n := 0) (q := 99) (by decide +kernel) rfl ?_
  refine vx_getR (b := 660) (idx := 118) (kd := 9) (s := 59) (fin := true) (q := 102) (by decide +kernel) (vx_Tk hT (by decide +kernel)) (vx_Tr hT (kd := 9) (by decide +kernel) (by decide +kernel) (by decide +kernel)) ?_
  refine vx_iload_n (n := 1) (q := 103) (by decide +kernel) rfl ?_
  refine vx_aload_n (n := 0) (q := 104) (by decide +kernel) rfl ?_
  refine vx_getR (b := 628) (idx := 16) (kd := 9) (s := 7) (fin := true) (q := 107) (by decide +kernel) (vx_Tk hT (by decide +kernel)) (vx_Tr hT (kd := 9) (by decide +kernel) (by decide +kernel) (by decide +kernel)) ?_
  refine vx_aload_n (n := 0) (q := 108) (by decide +kernel) rfl ?_
  refine vx_getI (idx := 207) (kd := 9) (s := 10) (fin := false) (q := 111) (by decide +kernel) (vx_Tk hT (by decide +kernel)) ?_
  obtain ⟨k1, H⟩ := H
  refine vx_iaload (z := 602) (q := 112) (by decide +kernel) (vx_Tk hT (by decide +kernel)) (vx_Tz hT (by decide +kernel)) (vx_ix k1 (by decide)) ?_
  obtain ⟨k2, H⟩ := H
  refine vx_iastore (z := 366) (q := 113) (by decide +kernel) (vx_Tk hT (by decide +kernel)) (vx_Tz hT (by decide +kernel)) (vx_ix k2 (by decide)) (fun h3 e3 => ?_)
  have hT3 := vx_TJ hT e3
  replace H := H h3 e3 hT3
  refine vx_iload_n (n := 3) (q := 114) (by decide +kernel) rfl ?_
  obtain ⟨k4, H⟩ := H
  refine vx_if0_eq (off := 186) (q := 117) (t := 300) (by decide +kernel) k4 (fun c5 => ?_) (fun c5 => ?_)
  · replace H := H.1 c5
    refine vx_aload_n (n := 0) (q := 301) (by decide +kernel) rfl ?_
    refine vx_getR (b := 627) (idx := 13) (kd := 9) (s := 6) (fin := true) (q := 304) (by decide +kernel) (vx_Tk hT3 (by decide +kernel)) (vx_Tr hT3 (kd := 9) (by decide +kernel) (by decide +kernel) (by decide +kernel)) ?_
    refine vx_aload_n (n := 0) (q := 305) (by decide +kernel) rfl ?_
    refine vx_getI (idx := 207) (kd := 9) (s := 10) (fin := false) (q := 308) (by decide +kernel) (vx_Tk hT3 (by decide +kernel)) ?_
    obtain ⟨k6, H⟩ := H
    refine vx_iaload (z := 602) (q := 309) (by decide +kernel) (vx_Tk hT3 (by decide +kernel)) (vx_Tz hT3 (by decide +kernel)) (vx_ix k6 (by decide)) ?_
    refine vx_iconst (n := 2) (q := 310) (by decide +kernel) ?_
    refine vx_icmp_ne (off := 7) (q := 313) (t := 317) (by decide +kernel) (vx_rI_J h3 627 (vx_J h3 625 10).toNat) (by decide) (fun c7 => ?_) (fun c7 => ?_)
    · replace H := H.1 c7
      refine vx_iconst (n := 0) (q := 318) (by decide +kernel) ?_
      refine vx_istore (n := 4) (q := 320) (lv' := [some (.ref 625), some (.int (vx_i v1)), some (.int (vx_i v2)), some (.int (vx_i v3)), some (.int (vx_i 0)), none]) (by decide +kernel) rfl ?_
      refine vx_aload_n (n := 0) (q := 321) (by decide +kernel) rfl ?_
      refine vx_callI (i := .invokevirtual 271) (how := 3) (cm := 39) (np := 1) (q := 324) (args := [.ref 625]) (rest := []) (by decide +kernel) rfl rfl rfl (vx_w2 (w := 1) (ml := 2) rfl (by decide +kernel)) (vx_rcv (kd := 9) (vx_Tk hT3 (by decide +kernel)) (by decide +kernel)) H (fun r8 h8 hr8 hs8 H => ?_)
      have hT8 := vx_Tsh hT3 hs8
      replace H := H hT8
      refine vx_if0_ne (off := 5) (q := 327) (t := 329) (by decide +kernel) hr8 (fun c9 => ?_) (fun c9 => ?_)
      · replace H := H.1 c9
        refine vx_aload_n (n := 0) (q := 330) (by decide +kernel) rfl ?_
        refine vx_iload_n (n := 1) (q := 331) (by decide +kernel) rfl ?_
        refine vx_iconst (n := 0) (q := 332) (by decide +kernel) ?_
        refine vx_callV (i := .invokevirtual 288) (how := 3) (cm := 44) (np := 3) (q := 335) (args := [.ref 625, .int (vx_i v1), .int (vx_i 0)]) (rest := []) (by decide +kernel) rfl rfl rfl (vx_w2 (w := 3) (ml := 3) rfl (by decide +kernel)) (vx_rcv (kd := 9) (vx_Tk hT8 (by decide +kernel)) (by decide +kernel)) H (fun h10 hs10 H => ?_)
        have hT10 := vx_Tsh hT8 hs10
        replace H := H hT10
        exact H
      · replace H := H.2 c9
        refine vx_iconst (n := 0) (q := 328) (by decide +kernel) ?_
        refine vx_retZ (q := 329) (by decide +kernel) (Or.inl rfl) ?_
        exact H
    · replace H := H.2 c7
      refine vx_iconst (n := 1) (q := 314) (by decide +kernel) ?_
      refine vx_goto (off := 4) (q := 317) (t := 318) (by decide +kernel) ?_
      refine vx_istore (n := 4) (q := 320) (lv' := [some (.ref 625), some (.int (vx_i v1)), some (.int (vx_i v2)), some (.int (vx_i v3)), some (.int (vx_i 1)), none]) (by decide +kernel) rfl ?_
      refine vx_aload_n (n := 0) (q := 321) (by decide +kernel) rfl ?_
      refine vx_callI (i := .invokevirtual 271) (how := 3) (cm := 39) (np := 1) (q := 324) (args := [.ref 625]) (rest := []) (by decide +kernel) rfl rfl rfl (vx_w2 (w := 1) (ml := 2) rfl (by decide +kernel)) (vx_rcv (kd := 9) (vx_Tk hT3 (by decide +kernel)) (by decide +kernel)) H (fun r11 h11 hr11 hs11 H => ?_)
      have hT11 := vx_Tsh hT3 hs11
      replace H := H hT11
      refine vx_if0_ne (off := 5) (q := 327) (t := 329) (by decide +kernel) hr11 (fun c12 => ?_) (fun c12 => ?_)
      · replace H := H.1 c12
        refine vx_aload_n (n := 0) (q := 330) (by decide +kernel) rfl ?_
        refine vx_iload_n (n := 1) (q := 331) (by decide +kernel) rfl ?_
        refine vx_iconst (n := 0) (q := 332) (by decide +kernel) ?_
        refine vx_callV (i := .invokevirtual 288) (how := 3) (cm := 44) (np := 3) (q := 335) (args := [.ref 625, .int (vx_i v1), .int (vx_i 0)]) (rest := []) (by decide +kernel) rfl rfl rfl (vx_w2 (w := 3) (ml := 3) rfl (by decide +kernel)) (vx_rcv (kd := 9) (vx_Tk hT11 (by decide +kernel)) (by decide +kernel)) H (fun h13 hs13 H => ?_)
        have hT13 := vx_Tsh hT11 hs13
        replace H := H hT13
        exact H
      · replace H := H.2 c12
        refine vx_iconst (n := 0) (q := 328) (by decide +kernel) ?_
        refine vx_retZ (q := 329) (by decide +kernel) (Or.inl rfl) ?_
        exact H
  · replace H := H.2 c5
    refine vx_iload_n (n := 2) (q := 118) (by decide +kernel) rfl ?_
    obtain ⟨k14, H⟩ := H
    refine vx_if0_eq (off := 16) (q := 121) (t := 134) (by decide +kernel) k14 (fun c15 => ?_) (fun c15 => ?_)
    · replace H := H.1 c15
      refine vx_aload_n (n := 0) (q := 135) (by decide +kernel) rfl ?_
      refine vx_getI (idx := 281) (kd := 9) (s := 58) (fin := false) (q := 138) (by decide +kernel) (vx_Tk hT3 (by decide +kernel)) ?_
      refine vx_iconst (n := 3) (q := 139) (by decide +kernel) ?_
      refine vx_icmp_ne (off := 8) (q := 142) (t := 147) (by decide +kernel) (vx_rI_J h3 625 58) (by decide) (fun c16 => ?_) (fun c16 => ?_)
      · replace H := H.1 c16
        exact H
      · replace H := H.2 c16
        refine vx_aload_n (n := 0) (q := 143) (by decide +kernel) rfl ?_
        refine vx_callI (i := .invokevirtual 219) (how := 3) (cm := 33) (np := 1) (q := 146) (args := [.ref 625]) (rest := []) (by decide +kernel) rfl rfl rfl (vx_w2 (w := 1) (ml := 1) rfl (by decide +kernel)) (vx_rcv (kd := 9) (vx_Tk hT3 (by decide +kernel)) (by decide +kernel)) H (fun r17 h17 hr17 hs17 H => ?_)
        have hT17 := vx_Tsh hT3 hs17
        replace H := H hT17
        obtain ⟨k18, H⟩ := H
        refine vx_retZ (q := 147) (by decide +kernel) k18 ?_
        exact H
    · replace H := H.2 c15
      refine vx_aload_n (n := 0) (q := 122) (by decide +kernel) rfl ?_
      refine vx_dupR (q := 123) (by decide +kernel) ?_
      refine vx_getI (idx := 207) (kd := 9) (s := 10) (fin := false) (q := 126) (by decide +kernel) (vx_Tk hT3 (by decide +kernel)) ?_
      refine vx_iconst (n := 1) (q := 127) (by decide +kernel) ?_
      refine vx_iadd (q := 128) (by decide +kernel) ?_
      refine vx_putI (idx := 207) (kd := 9) (s := 10) (fin := false) (q := 131) (by decide +kernel) (vx_Tk hT3 (by decide +kernel)) (fun h19 e19 => ?_)
      have hT19 := vx_TJ hT3 e19
      replace H := H h19 e19 hT19
      refine vx_goto (off := 16) (q := 134) (t := 147) (by decide +kernel) ?_
      exact H
theorem vg_45_147 {d : Nat} {h : ve_H} {P : Int → ve_H → Prop} {v1 : Int} {v2 : Int} {v3 : Int} (hT : vx_T 625 672 h) (H : (vx_rI v2) ∧ ((v2 ≠ 0 → vx_CI d 42 [.ref 625, .int (vx_i 0), .int (vx_i 1)] h (fun r3 h3 => vx_T 625 672 h3 → ((r3 ≠ 0 → (∀ h5, h5 = vx_sJ h3 625 58 ((vx_J h3 625 58) + 0) → vx_T 625 672 h5 → (0 ≤ v1 ∧ v1 < 366) ∧ (∀ h7, h7 = vx_sJ h5 643 v1.toNat 1 → vx_T 625 672 h7 → (0 ≤ v1 ∧ v1 < 366) ∧ (∀ h9, h9 = vx_sJ h7 644 v1.toNat (vx_J h7 625 57) → vx_T 625 672 h9 → (0 ≤ v1 ∧ v1 < 366) ∧ (∀ h11, h11 = vx_sJ h9 661 v1.toNat (vx_J h9 625 50) → vx_T 625 672 h11 → vx_W (d + 1) 45 234 [some (.ref 625), some (.int (vx_i v1)), some (.int (vx_i v2)), some (.int (vx_i v3)), some (.int (vx_i 0)), none] [] h11 (vx_RI P)))))) ∧ (r3 = 0 → P 0 h3)))) ∧ (v2 = 0 → (0 ≤ (vx_J h 625 42) ∧ (vx_J h 625 42) < 61) ∧ (((vx_J h 639 (vx_J h 625 42).toNat) ≠ 0 → vx_CI d 42 [.ref 625, .int (vx_i 0), .int (vx_i 0)] h (fun r14 h14 => vx_T 625 672 h14 → ((r14 ≠ 0 → (∀ h16, h16 = vx_sJ h14 625 58 ((vx_J h14 625 58) + 1) → vx_T 625 672 h16 → (0 ≤ v1 ∧ v1 < 366) ∧ (∀ h18, h18 = vx_sJ h16 643 v1.toNat 0 → vx_T 625 672 h18 → (0 ≤ v1 ∧ v1 < 366) ∧ (∀ h20, h20 = vx_sJ h18 644 v1.toNat (vx_J h18 625 57) → vx_T 625 672 h20 → (0 ≤ v1 ∧ v1 < 366) ∧ (∀ h22, h22 = vx_sJ h20 661 v1.toNat (vx_J h20 625 50) → vx_T 625 672 h22 → vx_W (d + 1) 45 234 [some (.ref 625), some (.int (vx_i v1)), some (.int (vx_i v2)), some (.int (vx_i v3)), some (.int (vx_i 0)), none] [] h22 (vx_RI P)))))) ∧ (r14 = 0 → P 0 h14)))) ∧ ((vx_J h 639 (vx_J h 625 42).toNat) = 0 → vx_CI d 42 [.ref 625, .int (vx_i 0), .int (vx_i 1)] h (fun r23 h23 => vx_T 625 672 h23 → ((r23 ≠ 0 → (∀ h25, h25 = vx_sJ h23 625 58 ((vx_J h23 625 58) + 1) → vx_T 625 672 h25 → (0 ≤ v1 ∧ v1 < 366) ∧ (∀ h27, h27 = vx_sJ h25 643 v1.toNat 0 → vx_T 625 672 h27 → (0 ≤ v1 ∧ v1 < 366) ∧ (∀ h29, h29 = vx_sJ h27 644 v1.toNat (vx_J h27 625 57) → vx_T 625 672 h29 → (0 ≤ v1 ∧ v1 < 366) ∧ (∀ h31, h31 = vx_sJ h29 661 v1.toNat (vx_J h29 625 50) → vx_T 625 672 h31 → vx_W (d + 1) 45 234 [some (.ref 625), some (.int (vx_i v1)), some (.int (vx_i v2)), some (.int (vx_i v3)), some (.int (vx_i 0)), none] [] h31 (vx_RI P)))))) ∧ (r23 = 0 → P 0 h23)))))))) : vx_W (d + 1) 45 147 [some (.ref 625), some (.int (vx_i v1)), some (.int (vx_i v2)), some (.int (vx_i v3)), none, none] [] h (vx_RI P) := by
  refine vx_aload_n (n := 0) (q := 148) (by decide +kernel) rfl ?_
  refine vx_iconst (n := 0) (q := 149) (by decide +kernel) ?_
  refine vx_iload_n (n := 2) (q := 150) (by decide +kernel) rfl ?_
  obtain ⟨k1, H⟩ := H
  refine vx_if0_ne (off := 15) (q := 153) (t := 165) (by decide +kernel) k1 (fun c2 => ?_) (fun c2 => ?_)
  · replace H := H.1 c2
    refine vx_iconst (n := 1) (q := 166) (by decide +kernel) ?_
    refine vx_goto (off := 4) (q := 169) (t := 170) (by decide +kernel) ?_
    refine vx_callI (i := .invokevirtual 284) (how := 3) (cm := 42) (np := 3) (q := 173) (args := [.ref 625, .int (vx_i 0), .int (vx_i 1)]) (rest := []) (by decide +kernel) rfl rfl rfl (vx_w2 (w := 3) (ml := 5) rfl (by decide +kernel)) (vx_rcv (kd := 9) (vx_Tk hT (by decide +kernel)) (by decide +kernel)) H (fun r3 h3 hr3 hs3 H => ?_)
    have hT3 := vx_Tsh hT hs3
    replace H := H hT3
    refine vx_if0_ne (off := 5) (q := 176) (t := 178) (by decide +kernel) hr3 (fun c4 => ?_) (fun c4 => ?_)
    · replace H := H.1 c4
      refine vx_aload_n (n := 0) (q := 179) (by decide +kernel) rfl ?_
      refine vx_dupR (q := 180) (by decide +kernel) ?_
      refine vx_getI (idx := 281) (kd := 9) (s := 58) (fin := false) (q := 183) (by decide +kernel) (vx_Tk hT3 (by decide +kernel)) ?_
      refine vx_iload_n (n := 2) (q := 184) (by decide +kernel) rfl ?_
      refine vx_if0_eq (off := 7) (q := 187) (t := 191) (by decide +kernel) k1 (fun c => absurd c (by omega)) (fun _ => ?_)
      refine vx_iconst (n := 0) (q := 188) (by decide +kernel) ?_
      refine vx_goto (off := 4) (q := 191) (t := 192) (by decide +kernel) ?_
      refine vx_iadd (q := 193) (by decide +kernel) ?_
      refine vx_putI (idx := 281) (kd := 9) (s := 58) (fin := false) (q := 196) (by decide +kernel) (vx_Tk hT3 (by decide +kernel)) (fun h5 e5 => ?_)
      have hT5 := vx_TJ hT3 e5
      replace H := H h5 e5 hT5
      refine vx_aload_n (n := 0) (q := 197) (by decide +kernel) rfl ?_
      refine vx_getR (b := 643) (idx := 62) (kd := 9) (s := 24) (fin := true) (q := 200) (by decide +kernel) (vx_Tk hT5 (by decide +kernel)) (vx_Tr hT5 (kd := 9) (by decide +kernel) (by decide +kernel) (by decide +kernel)) ?_
      refine vx_iload_n (n := 1) (q := 201) (by decide +kernel) rfl ?_
      refine vx_iload_n (n := 2) (q := 202) (by decide +kernel) rfl ?_
      refine vx_if0_eq (off := 7) (q := 205) (t := 209) (by decide +kernel) k1 (fun c => absurd c (by omega)) (fun _ => ?_)
      refine vx_iconst (n := 1) (q := 206) (by decide +kernel) ?_
      refine vx_goto (off := 4) (q := 209) (t := 210) (by decide +kernel) ?_
      obtain ⟨k6, H⟩ := H
      refine vx_iastore (z := 366) (q := 211) (by decide +kernel) (vx_Tk hT5 (by decide +kernel)) (vx_Tz hT5 (by decide +kernel)) (vx_ix k6 (by decide)) (fun h7 e7 => ?_)
      have hT7 := vx_TJ hT5 e7
      replace H := H h7 e7 hT7
      refine vx_aload_n (n := 0) (q := 212) (by decide +kernel) rfl ?_
      refine vx_getR (b := 644) (idx := 65) (kd := 9) (s := 25) (fin := true) (q := 215) (by decide +kernel) (vx_Tk hT7 (by decide +kernel)) (vx_Tr hT7 (kd := 9) (by decide +kernel) (by decide +kernel) (by decide +kernel)) ?_
      refine vx_iload_n (n := 1) (q := 216) (by decide +kernel) rfl ?_
      refine vx_aload_n (n := 0) (q := 217) (by decide +kernel) rfl ?_
      refine vx_getI (idx := 278) (kd := 9) (s := 57) (fin := false) (q := 220) (by decide +kernel) (vx_Tk hT7 (by decide +kernel)) ?_
      obtain ⟨k8, H⟩ := H
      refine vx_iastore (z := 366) (q := 221) (by decide +kernel) (vx_Tk hT7 (by decide +kernel)) (vx_Tz hT7 (by decide +kernel)) (vx_ix k8 (by decide)) (fun h9 e9 => ?_)
      have hT9 := vx_TJ hT7 e9
      replace H := H h9 e9 hT9
      refine vx_aload_n (n := 0) (q := 222) (by decide +kernel) rfl ?_
      refine vx_getR (b := 661) (idx := 121) (kd := 9) (s := 60) (fin := true) (q := 225) (by decide +kernel) (vx_Tk hT9 (by decide +kernel)) (vx_Tr hT9 (kd := 9) (by decide +kernel) (by decide +kernel) (by decide +kernel)) ?_
      refine vx_iload_n (n := 1) (q := 226) (by decide +kernel) rfl ?_
      refine vx_aload_n (n := 0) (q := 227) (by decide +kernel) rfl ?_
      refine vx_getI (idx := 253) (kd := 9) (s := 50) (fin := false) (q := 230) (by decide +kernel) (vx_Tk hT9 (by decide +kernel)) ?_
      obtain ⟨k10, H⟩ := H
      refine vx_iastore (z := 366) (q := 231) (by decide +kernel) (vx_Tk hT9 (by decide +kernel)) (vx_Tz hT9 (by decide +kernel)) (vx_ix k10 (by decide)) (fun h11 e11 => ?_)
      have hT11 := vx_TJ hT9 e11
      replace H := H h11 e11 hT11
      refine vx_iconst (n := 0) (q := 232) (by decide +kernel) ?_
      refine vx_istore (n := 4) (q := 234) (lv' := [some (.ref 625), some (.int (vx_i v1)), some (.int (vx_i v2)), some (.int (vx_i v3)), some (.int (vx_i 0)), none]) (by decide +kernel) rfl ?_
      exact H
    · replace H := H.2 c4
      refine vx_iconst (n := 0) (q := 177) (by decide +kernel) ?_
      refine vx_retZ (q := 178) (by decide +kernel) (Or.inl rfl) ?_
      exact H
  · replace H := H.2 c2
    refine vx_aload_n (n := 0) (q := 154) (by decide +kernel) rfl ?_
    refine vx_getR (b := 639) (idx := 50) (kd := 9) (s := 20) (fin := true) (q := 157) (by decide +kernel) (vx_Tk hT (by decide +kernel)) (vx_Tr hT (kd := 9) (by decide +kernel) (by decide +kernel) (by decide +kernel)) ?_
    refine vx_aload_n (n := 0) (q := 158) (by decide +kernel) rfl ?_
    refine vx_getI (idx := 223) (kd := 9) (s := 42) (fin := false) (q := 161) (by decide +kernel) (vx_Tk hT (by decide +kernel)) ?_
    obtain ⟨k12, H⟩ := H
    refine vx_iaload (z := 61) (q := 162) (by decide +kernel) (vx_Tk hT (by decide +kernel)) (vx_Tz hT (by decide +kernel)) (vx_ix k12 (by decide)) ?_
    refine vx_if0_ne (off := 7) (q := 165) (t := 169) (by decide +kernel) (vx_rI_J h 639 (vx_J h 625 42).toNat) (fun c13 => ?_) (fun c13 => ?_)
    · replace H := H.1 c13
      refine vx_iconst (n := 0) (q := 170) (by decide +kernel) ?_
      refine vx_callI (i := .invokevirtual 284) (how := 3) (cm := 42) (np := 3) (q := 173) (args := [.ref 625, .int (vx_i 0), .int (vx_i 0)]) (rest := []) (by decide +kernel) rfl rfl rfl (vx_w2 (w := 3) (ml := 5) rfl (by decide +kernel)) (vx_rcv (kd := 9) (vx_Tk hT (by decide +kernel)) (by decide +kernel)) H (fun r14 h14 hr14 hs14 H => ?_)
      have hT14 := vx_Tsh hT hs14
      replace H := H hT14
      refine vx_if0_ne (off := 5) (q := 176) (t := 178) (by decide +kernel) hr14 (fun c15 => ?_) (fun c15 => ?_)
      · replace H := H.1 c15
        refine vx_aload_n (n := 0) (q := 179) (by decide +kernel) rfl ?_
        refine vx_dupR (q := 180) (by decide +kernel) ?_
        refine vx_getI (idx := 281) (kd := 9) (s := 58) (fin := false) (q := 183) (by decide +kernel) (vx_Tk hT14 (by decide +kernel)) ?_
        refine vx_iload_n (n := 2) (q := 184) (by decide +kernel) rfl ?_
        refine vx_if0_eq (off := 7) (q := 187) (t := 191) (by decide +kernel) k1 (fun _ => ?_) (fun c => absurd c (by omega))
        refine vx_iconst (n := 1) (q := 192) (by decide +kernel) ?_
        refine vx_iadd (q := 193) (by decide +kernel) ?_
        refine vx_putI (idx := 281) (kd := 9) (s := 58) (fin := false) (q := 196) (by decide +kernel) (vx_Tk hT14 (by decide +kernel)) (fun h16 e16 => ?_)
        have hT16 := vx_TJ hT14 e16
        replace H := H h16 e16 hT16
        refine vx_aload_n (n := 0) (q := 197) (by decide +kernel) rfl ?_
        refine vx_getR (b := 643) (idx := 62) (kd := 9) (s := 24) (fin := true) (q := 200) (by decide +kernel) (vx_Tk hT16 (by decide +kernel)) (vx_Tr hT16 (kd := 9) (by decide +kernel) (by decide +kernel) (by decide +kernel)) ?_
        refine vx_iload_n (n := 1) (q := 201) (by decide +kernel) rfl ?_
        refine vx_iload_n (n := 2) (q := 202) (by decide +kernel) rfl ?_
        refine vx_if0_eq (off := 7) (q := 205) (t := 209) (by decide +kernel) k1 (fun _ => ?_) (fun c => absurd c (by omega))
        refine vx_iconst (n := 0) (q := 210) (by decide +kernel) ?_
        obtain ⟨k17, H⟩ := H
        refine vx_iastore (z := 366) (q := 211) (by decide +kernel) (vx_Tk hT16 (by decide +kernel)) (vx_Tz hT16 (by decide +kernel)) (vx_ix k17 (by decide)) (fun h18 e18 => ?_)
        have hT18 := vx_TJ hT16 e18
        replace H := H h18 e18 hT18
        refine vx_aload_n (n := 0) (q := 212) (by decide +kernel) rfl ?_
        refine vx_getR (b := 644) (idx := 65) (kd := 9) (s := 25) (fin := true) (q := 215) (by decide +kernel) (vx_Tk hT18 (by decide +kernel)) (vx_Tr hT18 (kd := 9) (by decide +kernel) (by decide +kernel) (by decide +kernel)) ?_
        refine vx_iload_n (n := 1) (q := 216) (by decide +kernel) rfl ?_
        refine vx_aload_n (n := 0) (q := 217) (by decide +kernel) rfl ?_
        refine vx_getI (idx := 278) (kd := 9) (s := 57) (fin := false) (q := 220) (by decide +kernel) (vx_Tk hT18 (by decide +kernel)) ?_
        obtain ⟨k19, H⟩ := H
        refine vx_iastore (z := 366) (q := 221) (by decide +kernel) (vx_Tk hT18 (by decide +kernel)) (vx_Tz hT18 (by decide +kernel)) (vx_ix k19 (by decide)) (fun h20 e20 => ?_)
        have hT20 := vx_TJ hT18 e20
        replace H := H h20 e20 hT20
        refine vx_aload_n (n := 0) (q := 222) (by decide +kernel) rfl ?_
        refine vx_getR (b := 661) (idx := 121) (kd := 9) (s := 60) (fin := true) (q := 225) (by decide +kernel) (vx_Tk hT20 (by decide +kernel)) (vx_Tr hT20 (kd := 9) (by decide +kernel) (by decide +kernel) (by decide +kernel)) ?_
        refine vx_iload_n (n := 1) (q := 226) (by decide +kernel) rfl ?_
        refine vx_aload_n (n := 0) (q := 227) (by decide +kernel) rfl ?_
        refine vx_getI (idx := 253) (kd := 9) (s := 50) (fin := false) (q := 230) (by decide +kernel) (vx_Tk hT20 (by decide +kernel)) ?_
        obtain ⟨k21, H⟩ := H
        refine vx_iastore (z := 366) (q := 231) (by decide +kernel) (vx_Tk hT20 (by decide +kernel)) (vx_Tz hT20 (by decide +kernel)) (vx_ix k21 (by decide)) (fun h22 e22 => ?_)
        have hT22 := vx_TJ hT20 e22
        replace H := H h22 e22 hT22
        refine vx_iconst (n := 0) (q := 232) (by decide +kernel) ?_
        refine vx_istore (n := 4) (q := 234) (lv' := [some (.ref 625), some (.int (vx_i v1)), some (.int (vx_i v2)), some (.int (vx_i v3)), some (.int (vx_i 0)), none]) (by decide +kernel) rfl ?_
        exact H
      · replace H := H.2 c15
        refine vx_iconst (n := 0) (q := 177) (by decide +kernel) ?_
        refine vx_retZ (q := 178) (by decide +kernel) (Or.inl rfl) ?_
        exact H
    · replace H := H.2 c13
      refine vx_iconst (n := 1) (q := 166) (by decide +kernel) ?_
      refine vx_goto (off := 4) (q := 169) (t := 170) (by decide +kernel) ?_
      refine vx_callI (i := .invokevirtual 284) (how := 3) (cm := 42) (np := 3) (q := 173) (args := [.ref 625, .int (vx_i 0), .int (vx_i 1)]) (rest := []) (by decide +kernel) rfl rfl rfl (vx_w2 (w := 3) (ml := 5) rfl (by decide +kernel)) (vx_rcv (kd := 9) (vx_Tk hT (by decide +kernel)) (by decide +kernel)) H (fun r23 h23 hr23 hs23 H => ?_)
      have hT23 := vx_Tsh hT hs23
      replace H := H hT23
      refine vx_if0_ne (off := 5) (q := 176) (t := 178) (by decide +kernel) hr23 (fun c24 => ?_) (fun c24 => ?_)
      · replace H := H.1 c24
        refine vx_aload_n (n := 0) (q := 179) (by decide +kernel) rfl ?_
        refine vx_dupR (q := 180) (by decide +kernel) ?_
        refine vx_getI (idx := 281) (kd := 9) (s := 58) (fin := false) (q := 183) (by decide +kernel) (vx_Tk hT23 (by decide +kernel)) ?_
        refine vx_iload_n (n := 2) (q := 184) (by decide +kernel) rfl ?_
        refine vx_if0_eq (off := 7) (q := 187) (t := 191) (by decide +kernel) k1 (fun _ => ?_) (fun c => absurd c (by omega))
        refine vx_iconst (n := 1) (q := 192) (by decide +kernel) ?_
        refine vx_iadd (q := 193) (by decide +kernel) ?_
        refine vx_putI (idx := 281) (kd := 9) (s := 58) (fin := false) (q := 196) (by decide +kernel) (vx_Tk hT23 (by decide +kernel)) (fun h25 e25 => ?_)
        have hT25 := vx_TJ hT23 e25
        replace H := H h25 e25 hT25
        refine vx_aload_n (n := 0) (q := 197) (by decide +kernel) rfl ?_
        refine vx_getR (b := 643) (idx := 62) (kd := 9) (s := 24) (fin := true) (q := 200) (by decide +kernel) (vx_Tk hT25 (by decide +kernel)) (vx_Tr hT25 (kd := 9) (by decide +kernel) (by decide +kernel) (by decide +kernel)) ?_
        refine vx_iload_n (n := 1) (q := 201) (by decide +kernel) rfl ?_
        refine vx_iload_n (n := 2) (q := 202) (by decide +kernel) rfl ?_
        refine vx_if0_eq (off := 7) (q := 205) (t := 209) (by decide +kernel) k1 (fun _ => ?_) (fun c => absurd c (by omega))
        refine vx_iconst (n := 0) (q := 210) (by decide +kernel) ?_
        obtain ⟨k26, H⟩ := H
        refine vx_iastore (z := 366) (q := 211) (by decide +kernel) (vx_Tk hT25 (by decide +kernel)) (vx_Tz hT25 (by decide +kernel)) (vx_ix k26 (by decide)) (fun h27 e27 => ?_)
        have hT27 := vx_TJ hT25 e27
        replace H := H h27 e27 hT27
        refine vx_aload_n (n := 0) (q := 212) (by decide +kernel) rfl ?_
        refine vx_getR (b := 644) (idx := 65) (kd := 9) (s := 25) (fin := true) (q := 215) (by decide +kernel) (vx_Tk hT27 (by decide +kernel)) (vx_Tr hT27 (kd := 9) (by decide +kernel) (by decide +kernel) (by decide +kernel)) ?_
        refine vx_iload_n (n := 1) (q := 216) (by decide +kernel) rfl ?_
        refine vx_aload_n (n := 0) (q := 217) (by decide +kernel) rfl ?_
        refine vx_getI (idx := 278) (kd := 9) (s := 57) (fin := false) (q := 220) (by decide +kernel) (vx_Tk hT27 (by decide +kernel)) ?_
        obtain ⟨k28, H⟩ := H
        refine vx_iastore (z := 366) (q := 221) (by decide +kernel) (vx_Tk hT27 (by decide +kernel)) (vx_Tz hT27 (by decide +kernel)) (vx_ix k28 (by decide)) (fun h29 e29 => ?_)
        have hT29 := vx_TJ hT27 e29
        replace H := H h29 e29 hT29
        refine vx_aload_n (n := 0) (q := 222) (by decide +kernel) rfl ?_
        refine vx_getR (b := 661) (idx := 121) (kd := 9) (s := 60) (fin := true) (q := 225) (by decide +kernel) (vx_Tk hT29 (by decide +kernel)) (vx_Tr hT29 (kd := 9) (by decide +kernel) (by decide +kernel) (by decide +kernel)) ?_
        refine vx_iload_n (n := 1) (q := 226) (by decide +kernel) rfl ?_
        refine vx_aload_n (n := 0) (q := 227) (by decide +kernel) rfl ?_
        refine vx_getI (idx := 253) (kd := 9) (s := 50) (fin := false) (q := 230) (by decide +kernel) (vx_Tk hT29 (by decide +kernel)) ?_
        obtain ⟨k30, H⟩ := H
        refine vx_iastore (z := 366) (q := 231) (by decide +kernel) (vx_Tk hT29 (by decide +kernel)) (vx_Tz hT29 (by decide +kernel)) (vx_ix k30 (by decide)) (fun h31 e31 => ?_)
        have hT31 := vx_TJ hT29 e31
        replace H := H h31 e31 hT31
        refine vx_iconst (n := 0) (q := 232) (by decide +kernel) ?_
        refine vx_istore (n := 4) (q := 234) (lv' := [some (.ref 625), some (.int (vx_i v1)), some (.int (vx_i v2)), some (.int (vx_i v3)), some (.int (vx_i 0)), none]) (by decide +kernel) rfl ?_
        exact H
      · replace H := H.2 c24
        refine vx_iconst (n := 0) (q := 177) (by decide +kernel) ?_
        refine vx_retZ (q := 178) (by decide +kernel) (Or.inl rfl) ?_
        exact H
theorem vg_45_234 {d : Nat} {h : ve_H} {P : Int → ve_H → Prop} {v1 : Int} {v2 : Int} {v3 : Int} {v4 : Int} (hT : vx_T 625 672 h) (H : (vx_rI v4) ∧ (((vx_J h 625 50) ≤ v4 → (0 ≤ (vx_J h 625 42) ∧ (vx_J h 625 42) < 61) ∧ (0 ≤ (vx_J h 625 42) ∧ (vx_J h 625 42) < 61) ∧ (∀ h5, h5 = vx_sJ h 641 (vx_J h 625 42).toNat ((vx_J h 641 (vx_J h 625 42).toNat) + 1) → vx_T 625 672 h5 → P 1 h5)) ∧ (v4 < (vx_J h 625 50) → (0 ≤ v4 ∧ v4 < 4) ∧ (0 ≤ ((4 * v1) + v4) ∧ ((4 * v1) + v4) < 1464) ∧ (∀ h8, h8 = vx_sJ h 645 ((4 * v1) + v4).toNat (vx_J h 658 v4.toNat) → vx_T 625 672 h8 → (0 ≤ v4 ∧ v4 < 4) ∧ (0 ≤ ((4 * v1) + v4) ∧ ((4 * v1) + v4) < 1464) ∧ (∀ h11, h11 = vx_sK h8 646 ((4 * v1) + v4).toNat (vx_K h8 659 v4.toNat) → vx_T 625 672 h11 → vx_W (d + 1) 45 234 [some (.ref 625), some (.int (vx_i v1)), some (.int (vx_i v2)), some (.int (vx_i v3)), some (.int (vx_i (v4 + 1))), none] [] h11 (vx_RI P)))))) : vx_W (d + 1) 45 234 [some (.ref 625), some (.int (vx_i v1)), some (.int (vx_i v2)), some (.int (vx_i v3)), some (.int (vx_i v4)), none] [] h (vx_RI P) := by
  refine vx_iload (n := 4) (q := 236) (by decide +kernel) rfl ?_
  refine vx_aload_n (n := 0) (q := 237) (by decide +kernel) rfl ?_
  refine vx_getI (idx := 253) (kd := 9) (s := 50) (fin := false) (q := 240) (by decide +kernel) (vx_Tk hT (by decide +kernel)) ?_
  obtain ⟨k1, H⟩ := H
  refine vx_icmp_ge (off := 45) (q := 243) (t := 285) (by decide +kernel) k1 (vx_rI_J h 625 50) (fun c2 => ?_) (fun c2 => ?_)
  · replace H := H.1 c2
    refine vx_aload_n (n := 0) (q := 286) (by decide +kernel) rfl ?_
    refine vx_getR (b := 641) (idx := 56) (kd := 9) (s := 22) (fin := true) (q := 289) (by decide +kernel) (vx_Tk hT (by decide +kernel)) (vx_Tr hT (kd := 9) (by decide +kernel) (by decide +kernel) (by decide +kernel)) ?_
    refine vx_aload_n (n := 0) (q := 290) (by decide +kernel) rfl ?_
    refine vx_getI (idx := 223) (kd := 9) (s := 42) (fin := false) (q := 293) (by decide +kernel) (vx_Tk hT (by decide +kernel)) ?_
    refine vx_dup2I (q := 294) (by decide +kernel) ?_
    obtain ⟨k3, H⟩ := H
    refine vx_iaload (z := 61) (q := 295) (by decide +kernel) (vx_Tk hT (by decide +kernel)) (vx_Tz hT (by decide +kernel)) (vx_ix k3 (by decide)) ?_
    refine vx_iconst (n := 1) (q := 296) (by decide +kernel) ?_
    refine vx_iadd (q := 297) (by decide +kernel) ?_
    obtain ⟨k4, H⟩ := H
    refine vx_iastore (z := 61) (q := 298) (by decide +kernel) (vx_Tk hT (by decide +kernel)) (vx_Tz hT (by decide +kernel)) (vx_ix k4 (by decide)) (fun h5 e5 => ?_)
    have hT5 := vx_TJ hT e5
    replace H := H h5 e5 hT5
    refine vx_iconst (n := 1) (q := 299) (by decide +kernel) ?_
    refine vx_retZ (q := 300) (by decide +kernel) (Or.inr rfl) ?_
    exact H
  · replace H := H.2 c2
    refine vx_aload_n (n := 0) (q := 244) (by decide +kernel) rfl ?_
    refine vx_getR (b := 645) (idx := 68) (kd := 9) (s := 26) (fin := true) (q := 247) (by decide +kernel) (vx_Tk hT (by decide +kernel)) (vx_Tr hT (kd := 9) (by decide +kernel) (by decide +kernel) (by decide +kernel)) ?_
    refine vx_iconst (n := 4) (q := 248) (by decide +kernel) ?_
    refine vx_iload_n (n := 1) (q := 249) (by decide +kernel) rfl ?_
    refine vx_imul (q := 250) (by decide +kernel) ?_
    refine vx_iload (n := 4) (q := 252) (by decide +kernel) rfl ?_
    refine vx_iadd (q := 253) (by decide +kernel) ?_
    refine vx_aload_n (n := 0) (q := 254) (by decide +kernel) rfl ?_
    refine vx_getR (b := 658) (idx := 112) (kd := 9) (s := 51) (fin := true) (q := 257) (by decide +kernel) (vx_Tk hT (by decide +kernel)) (vx_Tr hT (kd := 9) (by decide +kernel) (by decide +kernel) (by decide +kernel)) ?_
    refine vx_iload (n := 4) (q := 259) (by decide +kernel) rfl ?_
    obtain ⟨k6, H⟩ := H
    refine vx_iaload (z := 4) (q := 260) (by decide +kernel) (vx_Tk hT (by decide +kernel)) (vx_Tz hT (by decide +kernel)) (vx_ix k6 (by decide)) ?_
    obtain ⟨k7, H⟩ := H
    refine vx_iastore (z := 1464) (q := 261) (by decide +kernel) (vx_Tk hT (by decide +kernel)) (vx_Tz hT (by decide +kernel)) (vx_ix k7 (by decide)) (fun h8 e8 => ?_)
    have hT8 := vx_TJ hT e8
    replace H := H h8 e8 hT8
    refine vx_aload_n (n := 0) (q := 262) (by decide +kernel) rfl ?_
    refine vx_getR (b := 646) (idx := 71) (kd := 9) (s := 27) (fin := true) (q := 265) (by decide +kernel) (vx_Tk hT8 (by decide +kernel)) (vx_Tr hT8 (kd := 9) (by decide +kernel) (by decide +kernel) (by decide +kernel)) ?_
    refine vx_iconst (n := 4) (q := 266) (by decide +kernel) ?_
    refine vx_iload_n (n := 1) (q := 267) (by decide +kernel) rfl ?_
    refine vx_imul (q := 268) (by decide +kernel) ?_
    refine vx_iload (n := 4) (q := 270) (by decide +kernel) rfl ?_
    refine vx_iadd (q := 271) (by decide +kernel) ?_
    refine vx_aload_n (n := 0) (q := 272) (by decide +kernel) rfl ?_
    refine vx_getR (b := 659) (idx := 115) (kd := 9) (s := 52) (fin := true) (q := 275) (by decide +kernel) (vx_Tk hT8 (by decide +kernel)) (vx_Tr hT8 (kd := 9) (by decide +kernel) (by decide +kernel) (by decide +kernel)) ?_
    refine vx_iload (n := 4) (q := 277) (by decide +kernel) rfl ?_
    obtain ⟨k9, H⟩ := H
    refine vx_laload (z := 4) (q := 278) (by decide +kernel) (vx_Tk hT8 (by decide +kernel)) (vx_Tz hT8 (by decide +kernel)) (vx_ix k9 (by decide)) ?_
    obtain ⟨k10, H⟩ := H
    refine vx_lastore (z := 1464) (q := 279) (by decide +kernel) (vx_Tk hT8 (by decide +kernel)) (vx_Tz hT8 (by decide +kernel)) (vx_ix k10 (by decide)) (fun h11 e11 => ?_)
    have hT11 := vx_TK hT8 e11
    replace H := H h11 e11 hT11
    refine vx_iinc (n := 4) (m := 1) (x := v4) (q := 282) (lv' := [some (.ref 625), some (.int (vx_i v1)), some (.int (vx_i v2)), some (.int (vx_i v3)), some (.int (vx_i (v4 + 1))), none]) (by decide +kernel) rfl rfl ?_
    refine vx_goto (off := (-48)) (q := 285) (t := 234) (by decide +kernel) ?_
    exact H
theorem vg_45_335 {d : Nat} {h : ve_H} {P : Int → ve_H → Prop} {v1 : Int} {v2 : Int} {v3 : Int} {v4 : Int} (hT : vx_T 625 672 h) (H : (vx_rI v4) ∧ ((v4 = 0 → vx_CI d 43 [.ref 625] h (fun r3 h3 => vx_T 625 672 h3 → ((r3 ≠ 0 → (0 ≤ v1 ∧ v1 < 366) ∧ (∀ h6, h6 = vx_sJ h3 643 v1.toNat 2 → vx_T 625 672 h6 → vx_CI d 43 [.ref 625] h6 (fun r7 h7 => vx_T 625 672 h7 → (0 ≤ v1 ∧ v1 < 366) ∧ (∀ h9, h9 = vx_sJ h7 644 v1.toNat r7 → vx_T 625 672 h9 → (∀ h10, h10 = vx_sJ h9 625 10 ((vx_J h9 625 10) + 1) → vx_T 625 672 h10 → vx_CI d 39 [.ref 625] h10 (fun r11 h11 => vx_T 625 672 h11 → ((r11 ≠ 0 → vx_CV d 44 [.ref 625, .int (vx_i v1), .int (vx_i 1)] h11 (fun h13 => vx_T 625 672 h13 → vx_W (d + 1) 45 557 [some (.ref 625), some (.int (vx_i v1)), some (.int (vx_i v2)), some (.int (vx_i v3)), some (.int (vx_i v4)), none] [] h13 (vx_RI P))) ∧ (r11 = 0 → P 0 h11)))))))) ∧ (r3 = 0 → vx_CI d 33 [.ref 625] h3 (fun r14 h14 => vx_T 625 672 h14 → (r14 = 0 ∨ r14 = 1) ∧ P r14 h14))))) ∧ (v4 ≠ 0 → (0 ≤ (vx_J h 625 10) ∧ (vx_J h 625 10) < 602) ∧ (((vx_J h 627 (vx_J h 625 10).toNat) ≠ 5 → vx_CI d 43 [.ref 625] h (fun r18 h18 => vx_T 625 672 h18 → ((r18 ≠ 0 → (0 ≤ v1 ∧ v1 < 366) ∧ (∀ h21, h21 = vx_sJ h18 643 v1.toNat 2 → vx_T 625 672 h21 → vx_CI d 43 [.ref 625] h21 (fun r22 h22 => vx_T 625 672 h22 → (0 ≤ v1 ∧ v1 < 366) ∧ (∀ h24, h24 = vx_sJ h22 644 v1.toNat r22 → vx_T 625 672 h24 → (∀ h25, h25 = vx_sJ h24 625 10 ((vx_J h24 625 10) + 1) → vx_T 625 672 h25 → vx_CI d 39 [.ref 625] h25 (fun r26 h26 => vx_T 625 672 h26 → ((r26 ≠ 0 → vx_CV d 44 [.ref 625, .int (vx_i v1), .int (vx_i 1)] h26 (fun h28 => vx_T 625 672 h28 → vx_W (d + 1) 45 557 [some (.ref 625), some (.int (vx_i v1)), some (.int (vx_i v2)), some (.int (vx_i v3)), some (.int (vx_i v4)), none] [] h28 (vx_RI P))) ∧ (r26 = 0 → P 0 h26)))))))) ∧ (r18 = 0 → vx_CI d 33 [.ref 625] h18 (fun r29 h29 => vx_T 625 672 h29 → (r29 = 0 ∨ r29 = 1) ∧ P r29 h29))))) ∧ ((vx_J h 627 (vx_J h 625 10).toNat) = 5 → (0 ≤ (vx_J h 625 10) ∧ (vx_J h 625 10) < 602) ∧ (((vx_J h 629 (vx_J h 625 10).toNat) ≠ 1 → vx_CI d 43 [.ref 625] h (fun r33 h33 => vx_T 625 672 h33 → ((r33 ≠ 0 → (0 ≤ v1 ∧ v1 < 366) ∧ (∀ h36, h36 = vx_sJ h33 643 v1.toNat 2 → vx_T 625 672 h36 → vx_CI d 43 [.ref 625] h36 (fun r37 h37 => vx_T 625 672 h37 → (0 ≤ v1 ∧ v1 < 366) ∧ (∀ h39, h39 = vx_sJ h37 644 v1.toNat r37 → vx_T 625 672 h39 → (∀ h40, h40 = vx_sJ h39 625 10 ((vx_J h39 625 10) + 1) → vx_T 625 672 h40 → vx_CI d 39 [.ref 625] h40 (fun r41 h41 => vx_T 625 672 h41 → ((r41 ≠ 0 → vx_CV d 44 [.ref 625, .int (vx_i v1), .int (vx_i 1)] h41 (fun h43 => vx_T 625 672 h43 → vx_W (d + 1) 45 557 [some (.ref 625), some (.int (vx_i v1)), some (.int (vx_i v2)), some (.int (vx_i v3)), some (.int (vx_i v4)), none] [] h43 (vx_RI P))) ∧ (r41 = 0 → P 0 h41)))))))) ∧ (r33 = 0 → vx_CI d 33 [.ref 625] h33 (fun r44 h44 => vx_T 625 672 h44 → (r44 = 0 ∨ r44 = 1) ∧ P r44 h44))))) ∧ ((vx_J h 629 (vx_J h 625 10).toNat) = 1 → (∀ h46, h46 = vx_sJ h 625 10 ((vx_J h 625 10) + 1) → vx_T 625 672 h46 → (0 ≤ v1 ∧ v1 < 366) ∧ (∀ h48, h48 = vx_sJ h46 643 v1.toNat 3 → vx_T 625 672 h48 → vx_CI d 39 [.ref 625] h48 (fun r49 h49 => vx_T 625 672 h49 → ((r49 ≠ 0 → vx_CV d 44 [.ref 625, .int (vx_i v1), .int (vx_i 1)] h49 (fun h51 => vx_T 625 672 h51 → vx_CI d 34 [.ref 625, .int (vx_i 43)] h51 (fun r52 h52 => vx_T 625 672 h52 → ((r52 ≠ 0 → vx_W (d + 1) 45 450 [some (.ref 625), some (.int (vx_i v1)), some (.int (vx_i v2)), some (.int (vx_i v3)), some (.int (vx_i v4)), some (.int (vx_i 1))] [] h52 (vx_RI P)) ∧ (r52 = 0 → vx_CI d 34 [.ref 625, .int (vx_i 45)] h52 (fun r54 h54 => vx_T 625 672 h54 → ((r54 ≠ 0 → vx_W (d + 1) 45 450 [some (.ref 625), some (.int (vx_i v1)), some (.int (vx_i v2)), some (.int (vx_i v3)), some (.int (vx_i v4)), some (.int (vx_i 1))] [] h54 (vx_RI P)) ∧ (r54 = 0 → vx_CI d 34 [.ref 625, .int (vx_i 42)] h54 (fun r56 h56 => vx_T 625 672 h56 → ((r56 ≠ 0 → vx_W (d + 1) 45 450 [some (.ref 625), some (.int (vx_i v1)), some (.int (vx_i v2)), some (.int (vx_i v3)), some (.int (vx_i v4)), some (.int (vx_i 1))] [] h56 (vx_RI P)) ∧ (r56 = 0 → vx_CI d 34 [.ref 625, .int (vx_i 47)] h56 (fun r58 h58 => vx_T 625 672 h58 → ((r58 ≠ 0 → vx_W (d + 1) 45 450 [some (.ref 625), some (.int (vx_i v1)), some (.int (vx_i v2)), some (.int (vx_i v3)), some (.int (vx_i v4)), some (.int (vx_i 1))] [] h58 (vx_RI P)) ∧ (r58 = 0 → vx_CI d 34 [.ref 625, .int (vx_i 37)] h58 (fun r60 h60 => vx_T 625 672 h60 → ((r60 = 0 → vx_W (d + 1) 45 450 [some (.ref 625), some (.int (vx_i v1)), some (.int (vx_i v2)), some (.int (vx_i v3)), some (.int (vx_i v4)), some (.int (vx_i 0))] [] h60 (vx_RI P)) ∧ (r60 ≠ 0 → vx_W (d + 1) 45 450 [some (.ref 625), some (.int (vx_i v1)), some (.int (vx_i v2)), some (.int (vx_i v3)), some (.int (vx_i v4)), some (.int (vx_i 1))] [] h60 (vx_RI P)))))))))))))))))) ∧ (r49 = 0 → P 0 h49)))))))))))) : vx_W (d + 1) 45 335 [some (.ref 625), some (.int (vx_i v1)), some (.int (vx_i v2)), some (.int (vx_i v3)), some (.int (vx_i v4)), none] [] h (vx_RI P) := by
  refine vx_iload (n := 4) (q := 337) (by decide +kernel) rfl ?_
  obtain ⟨k1, H⟩ := H
  refine vx_if0_eq (off := 166) (q := 340) (t := 503) (by decide +kernel) k1 (fun c2 => ?_) (fun c2 => ?_)
  · replace H := H.1 c2
    refine vx_aload_n (n := 0) (q := 504) (by decide +kernel) rfl ?_
    refine vx_callI (i := .invokevirtual 291) (how := 3) (cm := 43) (np := 1) (q := 507) (args := [.ref 625]) (rest := []) (by decide +kernel) rfl rfl rfl (vx_w2 (w := 1) (ml := 2) rfl (by decide +kernel)) (vx_rcv (kd := 9) (vx_Tk hT (by decide +kernel)) (by decide +kernel)) H (fun r3 h3 hr3 hs3 H => ?_)
    have hT3 := vx_Tsh hT hs3
    replace H := H hT3
    refine vx_if0_ne (off := 8) (q := 510) (t := 515) (by decide +kernel) hr3 (fun c4 => ?_) (fun c4 => ?_)
    · replace H := H.1 c4
      refine vx_aload_n (n := 0) (q := 516) (by decide +kernel) rfl ?_
      refine vx_getR (b := 643) (idx := 62) (kd := 9) (s := 24) (fin := true) (q := 519) (by decide +kernel) (vx_Tk hT3 (by decide +kernel)) (vx_Tr hT3 (kd := 9) (by decide +kernel) (by decide +kernel) (by decide +kernel)) ?_
      refine vx_iload_n (n := 1) (q := 520) (by decide +kernel) rfl ?_
      refine vx_iconst (n := 2) (q := 521) (by decide +kernel) ?_
      obtain ⟨k5, H⟩ := H
      refine vx_iastore (z := 366) (q := 522) (by decide +kernel) (vx_Tk hT3 (by decide +kernel)) (vx_Tz hT3 (by decide +kernel)) (vx_ix k5 (by decide)) (fun h6 e6 => ?_)
      have hT6 := vx_TJ hT3 e6
      replace H := H h6 e6 hT6
      refine vx_aload_n (n := 0) (q := 523) (by decide +kernel) rfl ?_
      refine vx_getR (b := 644) (idx := 65) (kd := 9) (s := 25) (fin := true) (q := 526) (by decide +kernel) (vx_Tk hT6 (by decide +kernel)) (vx_Tr hT6 (kd := 9) (by decide +kernel) (by decide +kernel) (by decide +kernel)) ?_
      refine vx_iload_n (n := 1) (q := 527) (by decide +kernel) rfl ?_
      refine vx_aload_n (n := 0) (q := 528) (by decide +kernel) rfl ?_
      refine vx_callI (i := .invokevirtual 291) (how := 3) (cm := 43) (np := 1) (q := 531) (args := [.ref 625]) (rest := [.int (vx_i v1), .ref 644]) (by decide +kernel) rfl rfl rfl (vx_w2 (w := 1) (ml := 2) rfl (by decide +kernel)) (vx_rcv (kd := 9) (vx_Tk hT6 (by decide +kernel)) (by decide +kernel)) H (fun r7 h7 hr7 hs7 H => ?_)
      have hT7 := vx_Tsh hT6 hs7
      replace H := H hT7
      obtain ⟨k8, H⟩ := H
      refine vx_iastore (z := 366) (q := 532) (by decide +kernel) (vx_Tk hT7 (by decide +kernel)) (vx_Tz hT7 (by decide +kernel)) (vx_ix k8 (by decide)) (fun h9 e9 => ?_)
      have hT9 := vx_TJ hT7 e9
      replace H := H h9 e9 hT9
      refine vx_aload_n (n := 0) (q := 533) (by decide +kernel) rfl ?_
      refine vx_dupR (q := 534) (by decide +kernel) ?_
      refine vx_getI (idx := 207) (kd := 9) (s := 10) (fin := false) (q := 537) (by decide +kernel) (vx_Tk hT9 (by decide +kernel)) ?_
      refine vx_iconst (n := 1) (q := 538) (by decide +kernel) ?_
      refine vx_iadd (q := 539) (by decide +kernel) ?_
      refine vx_putI (idx := 207) (kd := 9) (s := 10) (fin := false) (q := 542) (by decide +kernel) (vx_Tk hT9 (by decide +kernel)) (fun h10 e10 => ?_)
      have hT10 := vx_TJ hT9 e10
      replace H := H h10 e10 hT10
      refine vx_aload_n (n := 0) (q := 543) (by decide +kernel) rfl ?_
      refine vx_callI (i := .invokevirtual 271) (how := 3) (cm := 39) (np := 1) (q := 546) (args := [.ref 625]) (rest := []) (by decide +kernel) rfl rfl rfl (vx_w2 (w := 1) (ml := 2) rfl (by decide +kernel)) (vx_rcv (kd := 9) (vx_Tk hT10 (by decide +kernel)) (by decide +kernel)) H (fun r11 h11 hr11 hs11 H => ?_)
      have hT11 := vx_Tsh hT10 hs11
      replace H := H hT11
      refine vx_if0_ne (off := 5) (q := 549) (t := 551) (by decide +kernel) hr11 (fun c12 => ?_) (fun c12 => ?_)
      · replace H := H.1 c12
        refine vx_aload_n (n := 0) (q := 552) (by decide +kernel) rfl ?_
        refine vx_iload_n (n := 1) (q := 553) (by decide +kernel) rfl ?_
        refine vx_iconst (n := 1) (q := 554) (by decide +kernel) ?_
        refine vx_callV (i := .invokevirtual 288) (how := 3) (cm := 44) (np := 3) (q := 557) (args := [.ref 625, .int (vx_i v1), .int (vx_i 1)]) (rest := []) (by decide +kernel) rfl rfl rfl (vx_w2 (w := 3) (ml := 3) rfl (by decide +kernel)) (vx_rcv (kd := 9) (vx_Tk hT11 (by decide +kernel)) (by decide +kernel)) H (fun h13 hs13 H => ?_)
        have hT13 := vx_Tsh hT11 hs13
        replace H := H hT13
        exact H
      · replace H := H.2 c12
        refine vx_iconst (n := 0) (q := 550) (by decide +kernel) ?_
        refine vx_retZ (q := 551) (by decide +kernel) (Or.inl rfl) ?_
        exact H
    · replace H := H.2 c4
      refine vx_aload_n (n := 0) (q := 511) (by decide +kernel) rfl ?_
      refine vx_callI (i := .invokevirtual 219) (how := 3) (cm := 33) (np := 1) (q := 514) (args := [.ref 625]) (rest := []) (by decide +kernel) rfl rfl rfl (vx_w2 (w := 1) (ml := 1) rfl (by decide +kernel)) (vx_rcv (kd := 9) (vx_Tk hT3 (by decide +kernel)) (by decide +kernel)) H (fun r14 h14 hr14 hs14 H => ?_)
      have hT14 := vx_Tsh hT3 hs14
      replace H := H hT14
      obtain ⟨k15, H⟩ := H
      refine vx_retZ (q := 515) (by decide +kernel) k15 ?_
      exact H
  · replace H := H.2 c2
    refine vx_aload_n (n := 0) (q := 341) (by decide +kernel) rfl ?_
    refine vx_getR (b := 627) (idx := 13) (kd := 9) (s := 6) (fin := true) (q := 344) (by decide +kernel) (vx_Tk hT (by decide +kernel)) (vx_Tr hT (kd := 9) (by decide +kernel) (by decide +kernel) (by decide +kernel)) ?_
    refine vx_aload_n (n := 0) (q := 345) (by decide +kernel) rfl ?_
    refine vx_getI (idx := 207) (kd := 9) (s := 10) (fin := false) (q := 348) (by decide +kernel) (vx_Tk hT (by decide +kernel)) ?_
    obtain ⟨k16, H⟩ := H
    refine vx_iaload (z := 602) (q := 349) (by decide +kernel) (vx_Tk hT (by decide +kernel)) (vx_Tz hT (by decide +kernel)) (vx_ix k16 (by decide)) ?_
    refine vx_iconst (n := 5) (q := 350) (by decide +kernel) ?_
    refine vx_icmp_ne (off := 153) (q := 353) (t := 503) (by decide +kernel) (vx_rI_J h 627 (vx_J h 625 10).toNat) (by decide) (fun c17 => ?_) (fun c17 => ?_)
    · replace H := H.1 c17
      refine vx_aload_n (n := 0) (q := 504) (by decide +kernel) rfl ?_
      refine vx_callI (i := .invokevirtual 291) (how := 3) (cm := 43) (np := 1) (q := 507) (args := [.ref 625]) (rest := []) (by decide +kernel) rfl rfl rfl (vx_w2 (w := 1) (ml := 2) rfl (by decide +kernel)) (vx_rcv (kd := 9) (vx_Tk hT (by decide +kernel)) (by decide +kernel)) H (fun r18 h18 hr18 hs18 H => ?_)
      have hT18 := vx_Tsh hT hs18
      replace H := H hT18
      refine vx_if0_ne (off := 8) (q := 510) (t := 515) (by decide +kernel) hr18 (fun c19 => ?_) (fun c19 => ?_)
      · replace H := H.1 c19
        refine vx_aload_n (n := 0) (q := 516) (by decide +kernel) rfl ?_
        refine vx_getR (b := 643) (idx := 62) (kd := 9) (s := 24) (fin := true) (q := 519) (by decide +kernel) (vx_Tk hT18 (by decide +kernel)) (vx_Tr hT18 (kd := 9) (by decide +kernel) (by decide +kernel) (by decide +kernel)) ?_
        refine vx_iload_n (n := 1) (q := 520) (by decide +kernel) rfl ?_
        refine vx_iconst (n := 2) (q := 521) (by decide +kernel) ?_
        obtain ⟨k20, H⟩ := H
        refine vx_iastore (z := 366) (q := 522) (by decide +kernel) (vx_Tk hT18 (by decide +kernel)) (vx_Tz hT18 (by decide +kernel)) (vx_ix k20 (by decide)) (fun h21 e21 => ?_)
        have hT21 := vx_TJ hT18 e21
        replace H := H h21 e21 hT21
        refine vx_aload_n (n := 0) (q := 523) (by decide +kernel) rfl ?_
        refine vx_getR (b := 644) (idx := 65) (kd := 9) (s := 25) (fin := true) (q := 526) (by decide +kernel) (vx_Tk hT21 (by decide +kernel)) (vx_Tr hT21 (kd := 9) (by decide +kernel) (by decide +kernel) (by decide +kernel)) ?_
        refine vx_iload_n (n := 1) (q := 527) (by decide +kernel) rfl ?_
        refine vx_aload_n (n := 0) (q := 528) (by decide +kernel) rfl ?_
        refine vx_callI (i := .invokevirtual 291) (how := 3) (cm := 43) (np := 1) (q := 531) (args := [.ref 625]) (rest := [.int (vx_i v1), .ref 644]) (by decide +kernel) rfl rfl rfl (vx_w2 (w := 1) (ml := 2) rfl (by decide +kernel)) (vx_rcv (kd := 9) (vx_Tk hT21 (by decide +kernel)) (by decide +kernel)) H (fun r22 h22 hr22 hs22 H => ?_)
        have hT22 := vx_Tsh hT21 hs22
        replace H := H hT22
        obtain ⟨k23, H⟩ := H
        refine vx_iastore (z := 366) (q := 532) (by decide +kernel) (vx_Tk hT22 (by decide +kernel)) (vx_Tz hT22 (by decide +kernel)) (vx_ix k23 (by decide)) (fun h24 e24 => ?_)
        have hT24 := vx_TJ hT22 e24
        replace H := H h24 e24 hT24
        refine vx_aload_n (n := 0) (q := 533) (by decide +kernel) rfl ?_
        refine vx_dupR (q := 534) (by decide +kernel) ?_
        refine vx_getI (idx := 207) (kd := 9) (s := 10) (fin := false) (q := 537) (by decide +kernel) (vx_Tk hT24 (by decide +kernel)) ?_
        refine vx_iconst (n := 1) (q := 538) (by decide +kernel) ?_
        refine vx_iadd (q := 539) (by decide +kernel) ?_
        refine vx_putI (idx := 207) (kd := 9) (s := 10) (fin := false) (q := 542) (by decide +kernel) (vx_Tk hT24 (by decide +kernel)) (fun h25 e25 => ?_)
        have hT25 := vx_TJ hT24 e25
        replace H := H h25 e25 hT25
        refine vx_aload_n (n := 0) (q := 543) (by decide +kernel) rfl ?_
        refine vx_callI (i := .invokevirtual 271) (how := 3) (cm := 39) (np := 1) (q := 546) (args := [.ref 625]) (rest := []) (by decide +kernel) rfl rfl rfl (vx_w2 (w := 1) (ml := 2) rfl (by decide +kernel)) (vx_rcv (kd := 9) (vx_Tk hT25 (by decide +kernel)) (by decide +kernel)) H (fun r26 h26 hr26 hs26 H => ?_)
        have hT26 := vx_Tsh hT25 hs26
        replace H := H hT26
        refine vx_if0_ne (off := 5) (q := 549) (t := 551) (by decide +kernel) hr26 (fun c27 => ?_) (fun c27 => ?_)
        · replace H := H.1 c27
          refine vx_aload_n (n := 0) (q := 552) (by decide +kernel) rfl ?_
          refine vx_iload_n (n := 1) (q := 553) (by decide +kernel) rfl ?_
          refine vx_iconst (n := 1) (q := 554) (by decide +kernel) ?_
          refine vx_callV (i := .invokevirtual 288) (how := 3) (cm := 44) (np := 3) (q := 557) (args := [.ref 625, .int (vx_i v1), .int (vx_i 1)]) (rest := []) (by decide +kernel) rfl rfl rfl (vx_w2 (w := 3) (ml := 3) rfl (by decide +kernel)) (vx_rcv (kd := 9) (vx_Tk hT26 (by decide +kernel)) (by decide +kernel)) H (fun h28 hs28 H => ?_)
          have hT28 := vx_Tsh hT26 hs28
          replace H := H hT28
          exact H
        · replace H := H.2 c27
          refine vx_iconst (n := 0) (q := 550) (by decide +kernel) ?_
          refine vx_retZ (q := 551) (by decide +kernel) (Or.inl rfl) ?_
          exact H
      · replace H := H.2 c19
        refine vx_aload_n (n := 0) (q := 511) (by decide +kernel) rfl ?_
        refine vx_callI (i := .invokevirtual 219) (how := 3) (cm := 33) (np := 1) (q := 514) (args := [.ref 625]) (rest := []) (by decide +kernel) rfl rfl rfl (vx_w2 (w := 1) (ml := 1) rfl (by decide +kernel)) (vx_rcv (kd := 9) (vx_Tk hT18 (by decide +kernel)) (by decide +kernel)) H (fun r29 h29 hr29 hs29 H => ?_)
        have hT29 := vx_Tsh hT18 hs29
        replace H := H hT29
        obtain ⟨k30, H⟩ := H
        refine vx_retZ (q := 515) (by decide +kernel) k30 ?_
        exact H
    · replace H := H.2 c17
      refine vx_aload_n (n := 0) (q := 354) (by decide +kernel) rfl ?_
      refine vx_getR (b := 629) (idx := 19) (kd := 9) (s := 8) (fin := true) (q := 357) (by decide +kernel) (vx_Tk hT (by decide +kernel)) (vx_Tr hT (kd := 9) (by decide +kernel) (by decide +kernel) (by decide +kernel)) ?_
      refine vx_aload_n (n := 0) (q := 358) (by decide +kernel) rfl ?_
      refine vx_getI (idx := 207) (kd := 9) (s := 10) (fin := false) (q := 361) (by decide +kernel) (vx_Tk hT (by decide +kernel)) ?_
      obtain ⟨k31, H⟩ := H
      refine vx_iaload (z := 602) (q := 362) (by decide +kernel) (vx_Tk hT (by decide +kernel)) (vx_Tz hT (by decide +kernel)) (vx_ix k31 (by decide)) ?_
      refine vx_iconst (n := 1) (q := 363) (by decide +kernel) ?_
      refine vx_icmp_ne (off := 140) (q := 366) (t := 503) (by decide +kernel) (vx_rI_J h 629 (vx_J h 625 10).toNat) (by decide) (fun c32 => ?_) (fun c32 => ?_)
      · replace H := H.1 c32
        refine vx_aload_n (n := 0) (q := 504) (by decide +kernel) rfl ?_
        refine vx_callI (i := .invokevirtual 291) (how := 3) (cm := 43) (np := 1) (q := 507) (args := [.ref 625]) (rest := []) (by decide +kernel) rfl rfl rfl (vx_w2 (w := 1) (ml := 2) rfl (by decide +kernel)) (vx_rcv (kd := 9) (vx_Tk hT (by decide +kernel)) (by decide +kernel)) H (fun r33 h33 hr33 hs33 H => ?_)
        have hT33 := vx_Tsh hT hs33
        replace H := H hT33
        refine vx_if0_ne (off := 8) (q := 510) (t := 515) (by decide +kernel) hr33 (fun c34 => ?_) (fun c34 => ?_)
        · replace H := H.1 c34
          refine vx_aload_n (n := 0) (q := 516) (by decide +kernel) rfl ?_
          refine vx_getR (b := 643) (idx := 62) (kd := 9) (s := 24) (fin := true) (q := 519) (by decide +kernel) (vx_Tk hT33 (by decide +kernel)) (vx_Tr hT33 (kd := 9) (by decide +kernel) (by decide +kernel) (by decide +kernel)) ?_
          refine vx_iload_n (n := 1) (q := 520) (by decide +kernel) rfl ?_
          refine vx_iconst (n := 2) (q := 521) (by decide +kernel) ?_
          obtain ⟨k35, H⟩ := H
          refine vx_iastore (z := 366) (q := 522) (by decide +kernel) (vx_Tk hT33 (by decide +kernel)) (vx_Tz hT33 (by decide +kernel)) (vx_ix k35 (by decide)) (fun h36 e36 => ?_)
          have hT36 := vx_TJ hT33 e36
          replace H := H h36 e36 hT36
          refine vx_aload_n (n := 0) (q := 523) (by decide +kernel) rfl ?_
          refine vx_getR (b := 644) (idx := 65) (kd := 9) (s := 25) (fin := true) (q := 526) (by decide +kernel) (vx_Tk hT36 (by decide +kernel)) (vx_Tr hT36 (kd := 9) (by decide +kernel) (by decide +kernel) (by decide +kernel)) ?_
          refine vx_iload_n (n := 1) (q := 527) (by decide +kernel) rfl ?_
          refine vx_aload_n (n := 0) (q := 528) (by decide +kernel) rfl ?_
          refine vx_callI (i := .invokevirtual 291) (how := 3) (cm := 43) (np := 1) (q := 531) (args := [.ref 625]) (rest := [.int (vx_i v1), .ref 644]) (by decide +kernel) rfl rfl rfl (vx_w2 (w := 1) (ml := 2) rfl (by decide +kernel)) (vx_rcv (kd := 9) (vx_Tk hT36 (by decide +kernel)) (by decide +kernel)) H (fun r37 h37 hr37 hs37 H => ?_)
          have hT37 := vx_Tsh hT36 hs37
          replace H := H hT37
          obtain ⟨k38, H⟩ := H
          refine vx_iastore (z := 366) (q := 532) (by decide +kernel) (vx_Tk hT37 (by decide +kernel)) (vx_Tz hT37 (by decide +kernel)) (vx_ix k38 (by decide)) (fun h39 e39 => ?_)
          have hT39 := vx_TJ hT37 e39
          replace H := H h39 e39 hT39
          refine vx_aload_n (n := 0) (q := 533) (by decide +kernel) rfl ?_
          refine vx_dupR (q := 534) (by decide +kernel) ?_
          refine vx_getI (idx := 207) (kd := 9) (s := 10) (fin := false) (q := 537) (by decide +kernel) (vx_Tk hT39 (by decide +kernel)) ?_
          refine vx_iconst (n := 1) (q := 538) (by decide +kernel) ?_
          refine vx_iadd (q := 539) (by decide +kernel) ?_
          refine vx_putI (idx := 207) (kd := 9) (s := 10) (fin := false) (q := 542) (by decide +kernel) (vx_Tk hT39 (by decide +kernel)) (fun h40 e40 => ?_)
          have hT40 := vx_TJ hT39 e40
          replace H := H h40 e40 hT40
          refine vx_aload_n (n := 0) (q := 543) (by decide +kernel) rfl ?_
          refine vx_callI (i := .invokevirtual 271) (how := 3) (cm := 39) (np := 1) (q := 546) (args := [.ref 625]) (rest := []) (by decide +kernel) rfl rfl rfl (vx_w2 (w := 1) (ml := 2) rfl (by decide +kernel)) (vx_rcv (kd := 9) (vx_Tk hT40 (by decide +kernel)) (by decide +kernel)) H (fun r41 h41 hr41 hs41 H => ?_)
          have hT41 := vx_Tsh hT40 hs41
          replace H := H hT41
          refine vx_if0_ne (off := 5) (q := 549) (t := 551) (by decide +kernel) hr41 (fun c42 => ?_) (fun c42 => ?_)
          · replace H := H.1 c42
            refine vx_aload_n (n := 0) (q := 552) (by decide +kernel) rfl ?_
            refine vx_iload_n (n := 1) (q := 553) (by decide +kernel) rfl ?_
            refine vx_iconst (n := 1) (q := 554) (by decide +kernel) ?_
            refine vx_callV (i := .invokevirtual 288) (how := 3) (cm := 44) (np := 3) (q := 557) (args := [.ref 625, .int (vx_i v1), .int (vx_i 1)]) (rest := []) (by decide +kernel) rfl rfl rfl (vx_w2 (w := 3) (ml := 3) rfl (by decide +kernel)) (vx_rcv (kd := 9) (vx_Tk hT41 (by decide +kernel)) (by decide +kernel)) H (fun h43 hs43 H => ?_)
            have hT43 := vx_Tsh hT41 hs43
            replace H := H hT43
            exact H
          · replace H := H.2 c42
            refine vx_iconst (n := 0) (q := 550) (by decide +kernel) ?_
            refine vx_retZ (q := 551) (by decide +kernel) (Or.inl rfl) ?_
            exact H
        · replace H := H.2 c34
          refine vx_aload_n (n := 0) (q := 511) (by decide +kernel) rfl ?_
          refine vx_callI (i := .invokevirtual 219) (how := 3) (cm := 33) (np := 1) (q := 514) (args := [.ref 625]) (rest := []) (by decide +kernel) rfl rfl rfl (vx_w2 (w := 1) (ml := 1) rfl (by decide +kernel)) (vx_rcv (kd := 9) (vx_Tk hT33 (by decide +kernel)) (by decide +kernel)) H (fun r44 h44 hr44 hs44 H => ?_)
          have hT44 := vx_Tsh hT33 hs44
          replace H := H hT44
          obtain ⟨k45, H⟩ := H
          refine vx_retZ (q := 515) (by decide +kernel) k45 ?_
          exact H
      · replace H := H.2 c32
        refine vx_aload_n (n := 0) (q := 367) (by decide +kernel) rfl ?_
        refine vx_dupR (q := 368) (by decide +kernel) ?_
        refine vx_getI (idx := 207) (kd := 9) (s := 10) (fin := false) (q := 371) (by decide +kernel) (vx_Tk hT (by decide +kernel)) ?_
        refine vx_iconst (n := 1) (q := 372) (by decide +kernel) ?_
        refine vx_iadd (q := 373) (by decide +kernel) ?_
        refine vx_putI (idx := 207) (kd := 9) (s := 10) (fin := false) (q := 376) (by decide +kernel) (vx_Tk hT (by decide +kernel)) (fun h46 e46 => ?_)
        have hT46 := vx_TJ hT e46
        replace H := H h46 e46 hT46
        refine vx_aload_n (n := 0) (q := 377) (by decide +kernel) rfl ?_
        refine vx_getR (b := 643) (idx := 62) (kd := 9) (s := 24) (fin := true) (q := 380) (by decide +kernel) (vx_Tk hT46 (by decide +kernel)) (vx_Tr hT46 (kd := 9) (by decide +kernel) (by decide +kernel) (by decide +kernel)) ?_
        refine vx_iload_n (n := 1) (q := 381) (by decide +kernel) rfl ?_
        refine vx_iconst (n := 3) (q := 382) (by decide +kernel) ?_
        obtain ⟨k47, H⟩ := H
        refine vx_iastore (z := 366) (q := 383) (by decide +kernel) (vx_Tk hT46 (by decide +kernel)) (vx_Tz hT46 (by decide +kernel)) (vx_ix k47 (by decide)) (fun h48 e48 => ?_)
        have hT48 := vx_TJ hT46 e48
        replace H := H h48 e48 hT48
        refine vx_aload_n (n := 0) (q := 384) (by decide +kernel) rfl ?_
        refine vx_callI (i := .invokevirtual 271) (how := 3) (cm := 39) (np := 1) (q := 387) (args := [.ref 625]) (rest := []) (by decide +kernel) rfl rfl rfl (vx_w2 (w := 1) (ml := 2) rfl (by decide +kernel)) (vx_rcv (kd := 9) (vx_Tk hT48 (by decide +kernel)) (by decide +kernel)) H (fun r49 h49 hr49 hs49 H => ?_)
        have hT49 := vx_Tsh hT48 hs49
        replace H := H hT49
        refine vx_if0_ne (off := 5) (q := 390) (t := 392) (by decide +kernel) hr49 (fun c50 => ?_) (fun c50 => ?_)
        · replace H := H.1 c50
          refine vx_aload_n (n := 0) (q := 393) (by decide +kernel) rfl ?_
          refine vx_iload_n (n := 1) (q := 394) (by decide +kernel) rfl ?_
          refine vx_iconst (n := 1) (q := 395) (by decide +kernel) ?_
          refine vx_callV (i := .invokevirtual 288) (how := 3) (cm := 44) (np := 3) (q := 398) (args := [.ref 625, .int (vx_i v1), .int (vx_i 1)]) (rest := []) (by decide +kernel) rfl rfl rfl (vx_w2 (w := 3) (ml := 3) rfl (by decide +kernel)) (vx_rcv (kd := 9) (vx_Tk hT49 (by decide +kernel)) (by decide +kernel)) H (fun h51 hs51 H => ?_)
          have hT51 := vx_Tsh hT49 hs51
          replace H := H hT51
          refine vx_aload_n (n := 0) (q := 399) (by decide +kernel) rfl ?_
          refine vx_bipush (n := 43) (q := 401) (by decide +kernel) ?_
          refine vx_callI (i := .invokevirtual 213) (how := 3) (cm := 34) (np := 2) (q := 404) (args := [.ref 625, .int (vx_i 43)]) (rest := []) (by decide +kernel) rfl rfl rfl (vx_w2 (w := 2) (ml := 2) rfl (by decide +kernel)) (vx_rcv (kd := 9) (vx_Tk hT51 (by decide +kernel)) (by decide +kernel)) H (fun r52 h52 hr52 hs52 H => ?_)
          have hT52 := vx_Tsh hT51 hs52
          replace H := H hT52
          refine vx_if0_ne (off := 39) (q := 407) (t := 443) (by decide +kernel) hr52 (fun c53 => ?_) (fun c53 => ?_)
          · replace H := H.1 c53
            refine vx_iconst (n := 1) (q := 444) (by decide +kernel) ?_
            refine vx_goto (off := 4) (q := 447) (t := 448) (by decide +kernel) ?_
            refine vx_istore (n := 5) (q := 450) (lv' := [some (.ref 625), some (.int (vx_i v1)), some (.int (vx_i v2)), some (.int (vx_i v3)), some (.int (vx_i v4)), some (.int (vx_i 1))]) (by decide +kernel) rfl ?_
            exact H
          · replace H := H.2 c53
            refine vx_aload_n (n := 0) (q := 408) (by decide +kernel) rfl ?_
            refine vx_bipush (n := 45) (q := 410) (by decide +kernel) ?_
            refine vx_callI (i := .invokevirtual 213) (how := 3) (cm := 34) (np := 2) (q := 413) (args := [.ref 625, .int (vx_i 45)]) (rest := []) (by decide +kernel) rfl rfl rfl (vx_w2 (w := 2) (ml := 2) rfl (by decide +kernel)) (vx_rcv (kd := 9) (vx_Tk hT52 (by decide +kernel)) (by decide +kernel)) H (fun r54 h54 hr54 hs54 H => ?_)
            have hT54 := vx_Tsh hT52 hs54
            replace H := H hT54
            refine vx_if0_ne (off := 30) (q := 416) (t := 443) (by decide +kernel) hr54 (fun c55 => ?_) (fun c55 => ?_)
            · replace H := H.1 c55
              refine vx_iconst (n := 1) (q := 444) (by decide +kernel) ?_
              refine vx_goto (off := 4) (q := 447) (t := 448) (by decide +kernel) ?_
              refine vx_istore (n := 5) (q := 450) (lv' := [some (.ref 625), some (.int (vx_i v1)), some (.int (vx_i v2)), some (.int (vx_i v3)), some (.int (vx_i v4)), some (.int (vx_i 1))]) (by decide +kernel) rfl ?_
              exact H
            · replace H := H.2 c55
              refine vx_aload_n (n := 0) (q := 417) (by decide +kernel) rfl ?_
              refine vx_bipush (n := 42) (q := 419) (by decide +kernel) ?_
              refine vx_callI (i := .invokevirtual 213) (how := 3) (cm := 34) (np := 2) (q := 422) (args := [.ref 625, .int (vx_i 42)]) (rest := []) (by decide +kernel) rfl rfl rfl (vx_w2 (w := 2) (ml := 2) rfl (by decide +kernel)) (vx_rcv (kd := 9) (vx_Tk hT54 (by decide +kernel)) (by decide +kernel)) H (fun r56 h56 hr56 hs56 H => ?_)
              have hT56 := vx_Tsh hT54 hs56
              replace H := H hT56
              refine vx_if0_ne (off := 21) (q := 425) (t := 443) (by decide +kernel) hr56 (fun c57 => ?_) (fun c57 => ?_)
              · replace H := H.1 c57
                refine vx_iconst (n := 1) (q := 444) (by decide +kernel) ?_
                refine vx_goto (off := 4) (q := 447) (t := 448) (by decide +kernel) ?_
                refine vx_istore (n := 5) (q := 450) (lv' := [some (.ref 625), some (.int (vx_i v1)), some (.int (vx_i v2)), some (.int (vx_i v3)), some (.int (vx_i v4)), some (.int (vx_i 1))]) (by decide +kernel) rfl ?_
                exact H
              · replace H := H.2 c57
                refine vx_aload_n (n := 0) (q := 426) (by decide +kernel) rfl ?_
                refine vx_bipush (n := 47) (q := 428) (by decide +kernel) ?_
                refine vx_callI (i := .invokevirtual 213) (how := 3) (cm := 34) (np := 2) (q := 431) (args := [.ref 625, .int (vx_i 47)]) (rest := []) (by decide +kernel) rfl rfl rfl (vx_w2 (w := 2) (ml := 2) rfl (by decide +kernel)) (vx_rcv (kd := 9) (vx_Tk hT56 (by decide +kernel)) (by decide +kernel)) H (fun r58 h58 hr58 hs58 H => ?_)
                have hT58 := vx_Tsh hT56 hs58
                replace H := H hT58
                refine vx_if0_ne (off := 12) (q := 434) (t := 443) (by decide +kernel) hr58 (fun c59 => ?_) (fun c59 => ?_)
                · replace H := H.1 c59
                  refine vx_iconst (n := 1) (q := 444) (by decide +kernel) ?_
                  refine vx_goto (off := 4) (q := 447) (t := 448) (by decide +kernel) ?_
                  refine vx_istore (n := 5) (q := 450) (lv' := [some (.ref 625), some (.int (vx_i v1)), some (.int (vx_i v2)), some (.int (vx_i v3)), some (.int (vx_i v4)), some (.int (vx_i 1))]) (by decide +kernel) rfl ?_
                  exact H
                · replace H := H.2 c59
                  refine vx_aload_n (n := 0) (q := 435) (by decide +kernel) rfl ?_
                  refine vx_bipush (n := 37) (q := 437) (by decide +kernel) ?_
                  refine vx_callI (i := .invokevirtual 213) (how := 3) (cm := 34) (np := 2) (q := 440) (args := [.ref 625, .int (vx_i 37)]) (rest := []) (by decide +kernel) rfl rfl rfl (vx_w2 (w := 2) (ml := 2) rfl (by decide +kernel)) (vx_rcv (kd := 9) (vx_Tk hT58 (by decide +kernel)) (by decide +kernel)) H (fun r60 h60 hr60 hs60 H => ?_)
                  have hT60 := vx_Tsh hT58 hs60
                  replace H := H hT60
                  refine vx_if0_eq (off := 7) (q := 443) (t := 447) (by decide +kernel) hr60 (fun c61 => ?_) (fun c61 => ?_)
                  · replace H := H.1 c61
                    refine vx_iconst (n := 0) (q := 448) (by decide +kernel) ?_
                    refine vx_istore (n := 5) (q := 450) (lv' := [some (.ref 625), some (.int (vx_i v1)), some (.int (vx_i v2)), some (.int (vx_i v3)), some (.int (vx_i v4)), some (.int (vx_i 0))]) (by decide +kernel) rfl ?_
                    exact H
                  · replace H := H.2 c61
                    refine vx_iconst (n := 1) (q := 444) (by decide +kernel) ?_
                    refine vx_goto (off := 4) (q := 447) (t := 448) (by decide +kernel) ?_
                    refine vx_istore (n := 5) (q := 450) (lv' := [some (.ref 625), some (.int (vx_i v1)), some (.int (vx_i v2)), some (.int (vx_i v3)), some (.int (vx_i v4)), some (.int (vx_i 1))]) (by decide +kernel) rfl ?_
                    exact H
        · replace H := H.2 c50
          refine vx_iconst (n := 0) (q := 391) (by decide +kernel) ?_
          refine vx_retZ (q := 392) (by decide +kernel) (Or.inl rfl) ?_
          exact H
theorem vg_45_450 {d : Nat} {h : ve_H} {P : Int → ve_H → Prop} {v1 : Int} {v2 : Int} {v3 : Int} {v4 : Int} {v5 : Int} (hT : vx_T 625 672 h) (H : (vx_rI v5) ∧ ((v5 ≠ 0 → (0 ≤ (vx_J h 625 10) ∧ (vx_J h 625 10) < 602) ∧ (0 ≤ v1 ∧ v1 < 366) ∧ (∀ h5, h5 = vx_sJ h 644 v1.toNat (vx_J h 629 (vx_J h 625 10).toNat) → vx_T 625 672 h5 → (∀ h6, h6 = vx_sJ h5 625 10 ((vx_J h5 625 10) + 1) → vx_T 625 672 h6 → vx_CI d 39 [.ref 625] h6 (fun r7 h7 => vx_T 625 672 h7 → ((r7 ≠ 0 → vx_CV d 44 [.ref 625, .int (vx_i v1), .int (vx_i 2)] h7 (fun h9 => vx_T 625 672 h9 → vx_W (d + 1) 45 557 [some (.ref 625), some (.int (vx_i v1)), some (.int (vx_i v2)), some (.int (vx_i v3)), some (.int (vx_i v4)), some (.int (vx_i v5))] [] h9 (vx_RI P))) ∧ (r7 = 0 → P 0 h7)))))) ∧ (v5 = 0 → vx_CI d 33 [.ref 625] h (fun r10 h10 => vx_T 625 672 h10 → (r10 = 0 ∨ r10 = 1) ∧ P r10 h10)))) : vx_W (d + 1) 45 450 [some (.ref 625), some (.int (vx_i v1)), some (.int (vx_i v2)), some (.int (vx_i v3)), some (.int (vx_i v4)), some (.int (vx_i v5))] [] h (vx_RI P) := by
  refine vx_iload (n := 5) (q := 452) (by decide +kernel) rfl ?_
  obtain ⟨k1, H⟩ := H
  refine vx_if0_ne (off := 8) (q := 455) (t := 460) (by decide +kernel) k1 (fun c2 => ?_) (fun c2 => ?_)
  · replace H := H.1 c2
    refine vx_aload_n (n := 0) (q := 461) (by decide +kernel) rfl ?_
    refine vx_getR (b := 644) (idx := 65) (kd := 9) (s := 25) (fin := true) (q := 464) (by decide +kernel) (vx_Tk hT (by decide +kernel)) (vx_Tr hT (kd := 9) (by decide +kernel) (by decide +kernel) (by decide +kernel)) ?_
    refine vx_iload_n (n := 1) (q := 465) (by decide +kernel) rfl ?_
    refine vx_aload_n (n := 0) (q := 466) (by decide +kernel) rfl ?_
    refine vx_getR (b := 629) (idx := 19) (kd := 9) (s := 8) (fin := true) (q := 469) (by decide +kernel) (vx_Tk hT (by decide +kernel)) (vx_Tr hT (kd := 9) (by decide +kernel) (by decide +kernel) (by decide +kernel)) ?_
    refine vx_aload_n (n := 0) (q := 470) (by decide +kernel) rfl ?_
    refine vx_getI (idx := 207) (kd := 9) (s := 10) (fin := false) (q := 473) (by decide +kernel) (vx_Tk hT (by decide +kernel)) ?_
    obtain ⟨k3, H⟩ := H
    refine vx_iaload (z := 602) (q := 474) (by decide +kernel) (vx_Tk hT (by decide +kernel)) (vx_Tz hT (by decide +kernel)) (vx_ix k3 (by decide)) ?_
    obtain ⟨k4, H⟩ := H
    refine vx_iastore (z := 366) (q := 475) (by decide +kernel) (vx_Tk hT (by decide +kernel)) (vx_Tz hT (by decide +kernel)) (vx_ix k4 (by decide)) (fun h5 e5 => ?_)
    have hT5 := vx_TJ hT e5
    replace H := H h5 e5 hT5
    refine vx_aload_n (n := 0) (q := 476) (by decide +kernel) rfl ?_
    refine vx_dupR (q := 477) (by decide +kernel) ?_
    refine vx_getI (idx := 207) (kd := 9) (s := 10) (fin := false) (q := 480) (by decide +kernel) (vx_Tk hT5 (by decide +kernel)) ?_
    refine vx_iconst (n := 1) (q := 481) (by decide +kernel) ?_
    refine vx_iadd (q := 482) (by decide +kernel) ?_
    refine vx_putI (idx := 207) (kd := 9) (s := 10) (fin := false) (q := 485) (by decide +kernel) (vx_Tk hT5 (by decide +kernel)) (fun h6 e6 => ?_)
    have hT6 := vx_TJ hT5 e6
    replace H := H h6 e6 hT6
    refine vx_aload_n (n := 0) (q := 486) (by decide +kernel) rfl ?_
    refine vx_callI (i := .invokevirtual 271) (how := 3) (cm := 39) (np := 1) (q := 489) (args := [.ref 625]) (rest := []) (by decide +kernel) rfl rfl rfl (vx_w2 (w := 1) (ml := 2) rfl (by decide +kernel)) (vx_rcv (kd := 9) (vx_Tk hT6 (by decide +kernel)) (by decide +kernel)) H (fun r7 h7 hr7 hs7 H => ?_)
    have hT7 := vx_Tsh hT6 hs7
    replace H := H hT7
    refine vx_if0_ne (off := 5) (q := 492) (t := 494) (by decide +kernel) hr7 (fun c8 => ?_) (fun c8 => ?_)
    · replace H := H.1 c8
      refine vx_aload_n (n := 0) (q := 495) (by decide +kernel) rfl ?_
      refine vx_iload_n (n := 1) (q := 496) (by decide +kernel) rfl ?_
      refine vx_iconst (n := 2) (q := 497) (by decide +kernel) ?_
      refine vx_callV (i := .invokevirtual 288) (how := 3) (cm := 44) (np := 3) (q := 500) (args := [.ref 625, .int (vx_i v1), .int (vx_i 2)]) (rest := []) (by decide +kernel) rfl rfl rfl (vx_w2 (w := 3) (ml := 3) rfl (by decide +kernel)) (vx_rcv (kd := 9) (vx_Tk hT7 (by decide +kernel)) (by decide +kernel)) H (fun h9 hs9 H => ?_)
      have hT9 := vx_Tsh hT7 hs9
      replace H := H hT9
      refine vx_goto (off := 57) (q := 503) (t := 557) (by decide +kernel) ?_
      exact H
    · replace H := H.2 c8
      refine vx_iconst (n := 0) (q := 493) (by decide +kernel) ?_
      refine vx_retZ (q := 494) (by decide +kernel) (Or.inl rfl) ?_
      exact H
  · replace H := H.2 c2
    refine vx_aload_n (n := 0) (q := 456) (by decide +kernel) rfl ?_
    refine vx_callI (i := .invokevirtual 219) (how := 3) (cm := 33) (np := 1) (q := 459) (args := [.ref 625]) (rest := []) (by decide +kernel) rfl rfl rfl (vx_w2 (w := 1) (ml := 1) rfl (by decide +kernel)) (vx_rcv (kd := 9) (vx_Tk hT (by decide +kernel)) (by decide +kernel)) H (fun r10 h10 hr10 hs10 H => ?_)
    have hT10 := vx_Tsh hT hs10
    replace H := H hT10
    obtain ⟨k11, H⟩ := H
    refine vx_retZ (q := 460) (by decide +kernel) k11 ?_
    exact H
theorem vg_45_557 {d : Nat} {h : ve_H} {P : Int → ve_H → Prop} {v1 : Int} {v2 : Int} {v3 : Int} {v4 : Int} {v5 : Option Value} (hT : vx_T 625 672 h) (H : (0 ≤ (vx_J h 625 42) ∧ (vx_J h 625 42) < 61) ∧ (0 ≤ (vx_J h 625 42) ∧ (vx_J h 625 42) < 61) ∧ (∀ h3, h3 = vx_sJ h 641 (vx_J h 625 42).toNat ((vx_J h 641 (vx_J h 625 42).toNat) + 1) → vx_T 625 672 h3 → P 1 h3)) : vx_W (d + 1) 45 557 [some (.ref 625), some (.int (vx_i v1)), some (.int (vx_i v2)), some (.int (vx_i v3)), some (.int (vx_i v4)), v5] [] h (vx_RI P) := by
  refine vx_aload_n (n := 0) (q := 558) (by decide +kernel) rfl ?_
  refine vx_getR (b := 641) (idx := 56) (kd := 9) (s := 22) (fin := true) (q := 561) (by decide +kernel) (vx_Tk hT (by decide +kernel)) (vx_Tr hT (kd := 9) (by decide +kernel) (by decide +kernel) (by decide +kernel)) ?_
  refine vx_aload_n (n := 0) (q := 562) (by decide +kernel) rfl ?_
  refine vx_getI (idx := 223) (kd := 9) (s := 42) (fin := false) (q := 565) (by decide +kernel) (vx_Tk hT (by decide +kernel)) ?_
  refine vx_dup2I (q := 566) (by decide +kernel) ?_
  obtain ⟨k1, H⟩ := H
  refine vx_iaload (z := 61) (q := 567) (by decide +kernel) (vx_Tk hT (by decide +kernel)) (vx_Tz hT (by decide +kernel)) (vx_ix k1 (by decide)) ?_
  refine vx_iconst (n := 1) (q := 568) (by decide +kernel) ?_
  refine vx_iadd (q := 569) (by decide +kernel) ?_
  obtain ⟨k2, H⟩ := H
  refine vx_iastore (z := 61) (q := 570) (by decide +kernel) (vx_Tk hT (by decide +kernel)) (vx_Tz hT (by decide +kernel)) (vx_ix k2 (by decide)) (fun h3 e3 => ?_)
  have hT3 := vx_TJ hT e3
  replace H := H h3 e3 hT3
  refine vx_iconst (n := 1) (q := 571) (by decide +kernel) ?_
  refine vx_retZ (q := 572) (by decide +kernel) (Or.inr rfl) ?_
  exact H
-- RuleHouseModel.readBody()Z
theorem vg_46 {d : Nat} {h : ve_H} {P : Int → ve_H → Prop}  (hT : vx_T 625 672 h) (H : (∀ h1, h1 = vx_sJ h 625 58 0 → vx_T 625 672 h1 → vx_W (d + 1) 46 5 [some (.ref 625)] [] h1 (vx_RI P))) : vx_CI (d + 1) 46 [.ref 625] h P := by
  refine vx_enter (ml := 1) (by decide +kernel) ?_
  show vx_W _ _ 0 [some (.ref 625)] [] h _
  refine vx_aload_n (n := 0) (q := 1) (by decide +kernel) rfl ?_
  refine vx_iconst (n := 0) (q := 2) (by decide +kernel) ?_
  refine vx_putI (idx := 281) (kd := 9) (s := 58) (fin := false) (q := 5) (by decide +kernel) (vx_Tk hT (by decide +kernel)) (fun h1 e1 => ?_)
  have hT1 := vx_TJ hT e1
  replace H := H h1 e1 hT1
  exact H
theorem vg_46_5 {d : Nat} {h : ve_H} {P : Int → ve_H → Prop}  (hT : vx_T 625 672 h) (H : vx_CI d 45 [.ref 625] h (fun r1 h1 => vx_T 625 672 h1 → ((r1 ≠ 0 → vx_CI d 35 [.ref 625, .int (vx_i 44)] h1 (fun r3 h3 => vx_T 625 672 h3 → ((r3 ≠ 0 → vx_W (d + 1) 46 5 [some (.ref 625)] [] h3 (vx_RI P)) ∧ (r3 = 0 → P 1 h3)))) ∧ (r1 = 0 → P 0 h1)))) : vx_W (d + 1) 46 5 [some (.ref 625)] [] h (vx_RI P) := by
  refine vx_aload_n (n := 0) (q := 6) (by decide +kernel) rfl ?_
  refine vx_callI (i := .invokevirtual 295) (how := 3) (cm := 45) (np := 1) (q := 9) (args := [.ref 625]) (rest := []) (by decide +kernel) rfl rfl rfl (vx_w2 (w := 1) (ml := 6) rfl (by decide +kernel)) (vx_rcv (kd := 9) (vx_Tk hT (by decide +kernel)) (by decide +kernel)) H (fun r1 h1 hr1 hs1 H => ?_)
  have hT1 := vx_Tsh hT hs1
  replace H := H hT1
  refine vx_if0_ne (off := 5) (q := 12) (t := 14) (by decide +kernel) hr1 (fun c2 => ?_) (fun c2 => ?_)
  · replace H := H.1 c2
    refine vx_aload_n (n := 0) (q := 15) (by decide +kernel) rfl ?_
    refine vx_bipush (n := 44) (q := 17) (by decide +kernel) ?_
    refine vx_callI (i := .invokevirtual 216) (how := 3) (cm := 35) (np := 2) (q := 20) (args := [.ref 625, .int (vx_i 44)]) (rest := []) (by decide +kernel) rfl rfl rfl (vx_w2 (w := 2) (ml := 2) rfl (by decide +kernel)) (vx_rcv (kd := 9) (vx_Tk hT1 (by decide +kernel)) (by decide +kernel)) H (fun r3 h3 hr3 hs3 H => ?_)
    have hT3 := vx_Tsh hT1 hs3
    replace H := H hT3
    refine vx_if0_ne (off := (-15)) (q := 23) (t := 5) (by decide +kernel) hr3 (fun c4 => ?_) (fun c4 => ?_)
    · replace H := H.1 c4
      exact H
    · replace H := H.2 c4
      refine vx_iconst (n := 1) (q := 24) (by decide +kernel) ?_
      refine vx_retZ (q := 25) (by decide +kernel) (Or.inr rfl) ?_
      exact H
  · replace H := H.2 c2
    refine vx_iconst (n := 0) (q := 13) (by decide +kernel) ?_
    refine vx_retZ (q := 14) (by decide +kernel) (Or.inl rfl) ?_
    exact H
-- RuleHouseModel.isBound(II)Z
theorem vg_47 {d : Nat} {h : ve_H} {P : Int → ve_H → Prop} {x1 : Int} {x2 : Int} (hT : vx_T 625 672 h) (H : (0 ≤ ((4 * x1) + x2) ∧ ((4 * x1) + x2) < 1464) ∧ (((vx_J h 645 ((4 * x1) + x2).toNat) = 0 → P 1 h) ∧ ((vx_J h 645 ((4 * x1) + x2).toNat) ≠ 0 → (0 ≤ ((4 * x1) + x2) ∧ ((4 * x1) + x2) < 1464) ∧ (((vx_J h 645 ((4 * x1) + x2).toNat) ≠ 1 → P 0 h) ∧ ((vx_J h 645 ((4 * x1) + x2).toNat) = 1 → (0 ≤ ((4 * x1) + x2) ∧ ((4 * x1) + x2) < 1464) ∧ (0 ≤ (vx_K h 646 ((4 * x1) + x2).toNat) ∧ (vx_K h 646 ((4 * x1) + x2).toNat) < 9) ∧ (((vx_J h 657 (vx_K h 646 ((4 * x1) + x2).toNat).toNat) = 0 → P 0 h) ∧ ((vx_J h 657 (vx_K h 646 ((4 * x1) + x2).toNat).toNat) ≠ 0 → P 1 h))))))) : vx_CI d 47 [.ref 625, .int (vx_i x1), .int (vx_i x2)] h P := by
  refine vx_enter (ml := 3) (by decide +kernel) ?_
  show vx_W _ _ 0 [some (.ref 625), some (.int (vx_i x1)), some (.int (vx_i x2))] [] h _
  refine vx_aload_n (n := 0) (q := 1) (by decide +kernel) rfl ?_
  refine vx_getR (b := 645) (idx := 68) (kd := 9) (s := 26) (fin := true) (q := 4) (by decide +kernel) (vx_Tk hT (by decide +kernel)) (vx_Tr hT (kd := 9) (by decide +kernel) (by decide +kernel) (by decide +kernel)) ?_
  refine vx_iconst (n := 4) (q := 5) (by decide +kernel) ?_
  refine vx_iload_n (n := 1) (q := 6) (by decide +kernel) rfl ?_
  refine vx_imul (q := 7) (by decide +kernel) ?_
  refine vx_iload_n (n := 2) (q := 8) (by decide +kernel) rfl ?_
  refine vx_iadd (q := 9) (by decide +kernel) ?_
  obtain ⟨k1, H⟩ := H
  refine vx_iaload (z := 1464) (q := 10) (by decide +kernel) (vx_Tk hT (by decide +kernel)) (vx_Tz hT (by decide +kernel)) (vx_ix k1 (by decide)) ?_
  refine vx_if0_eq (off := 36) (q := 13) (t := 46) (by decide +kernel) (vx_rI_J h 645 ((4 * x1) + x2).toNat) (fun c2 => ?_) (fun c2 => ?_)
  · replace H := H.1 c2
    refine vx_iconst (n := 1) (q := 47) (by decide +kernel) ?_
    refine vx_goto (off := 4) (q := 50) (t := 51) (by decide +kernel) ?_
    refine vx_retZ (q := 52) (by decide +kernel) (Or.inr rfl) ?_
    exact H
  · replace H := H.2 c2
    refine vx_aload_n (n := 0) (q := 14) (by decide +kernel) rfl ?_
    refine vx_getR (b := 645) (idx := 68) (kd := 9) (s := 26) (fin := true) (q := 17) (by decide +kernel) (vx_Tk hT (by decide +kernel)) (vx_Tr hT (kd := 9) (by decide +kernel) (by decide +kernel) (by decide +kernel)) ?_
    refine vx_iconst (n := 4) (q := 18) (by decide +kernel) ?_
    refine vx_iload_n (n := 1) (q := 19) (by decide +kernel) rfl ?_
    refine vx_imul (q := 20) (by decide +kernel) ?_
    refine vx_iload_n (n := 2) (q := 21) (by decide +kernel) rfl ?_
    refine vx_iadd (q := 22) (by decide +kernel) ?_
    obtain ⟨k3, H⟩ := H
    refine vx_iaload (z := 1464) (q := 23) (by decide +kernel) (vx_Tk hT (by decide +kernel)) (vx_Tz hT (by decide +kernel)) (vx_ix k3 (by decide)) ?_
    refine vx_iconst (n := 1) (q := 24) (by decide +kernel) ?_
    refine vx_icmp_ne (off := 26) (q := 27) (t := 50) (by decide +kernel) (vx_rI_J h 645 ((4 * x1) + x2).toNat) (by decide) (fun c4 => ?_) (fun c4 => ?_)
    · replace H := H.1 c4
      refine vx_iconst (n := 0) (q := 51) (by decide +kernel) ?_
      refine vx_retZ (q := 52) (by decide +kernel) (Or.inl rfl) ?_
      exact H
    · replace H := H.2 c4
      refine vx_aload_n (n := 0) (q := 28) (by decide +kernel) rfl ?_
      refine vx_getR (b := 657) (idx := 108) (kd := 9) (s := 45) (fin := true) (q := 31) (by decide +kernel) (vx_Tk hT (by decide +kernel)) (vx_Tr hT (kd := 9) (by decide +kernel) (by decide +kernel) (by decide +kernel)) ?_
      refine vx_aload_n (n := 0) (q := 32) (by decide +kernel) rfl ?_
      refine vx_getR (b := 646) (idx := 71) (kd := 9) (s := 27) (fin := true) (q := 35) (by decide +kernel) (vx_Tk hT (by decide +kernel)) (vx_Tr hT (kd := 9) (by decide +kernel) (by decide +kernel) (by decide +kernel)) ?_
      refine vx_iconst (n := 4) (q := 36) (by decide +kernel) ?_
      refine vx_iload_n (n := 1) (q := 37) (by decide +kernel) rfl ?_
      refine vx_imul (q := 38) (by decide +kernel) ?_
      refine vx_iload_n (n := 2) (q := 39) (by decide +kernel) rfl ?_
      refine vx_iadd (q := 40) (by decide +kernel) ?_
      obtain ⟨k5, H⟩ := H
      refine vx_laload (z := 1464) (q := 41) (by decide +kernel) (vx_Tk hT (by decide +kernel)) (vx_Tz hT (by decide +kernel)) (vx_ix k5 (by decide)) ?_
      refine vx_l2i (q := 42) (by decide +kernel) ?_
      obtain ⟨k6, H⟩ := H
      refine vx_zaload (z := 9) (q := 43) (by decide +kernel) (vx_Tk hT (by decide +kernel)) (vx_Tz hT (by decide +kernel)) (vx_ix k6 (by decide)) ?_
      refine vx_if0_eq (off := 7) (q := 46) (t := 50) (by decide +kernel) (vx_rI_J h 657 (vx_K h 646 ((4 * x1) + x2).toNat).toNat) (fun c7 => ?_) (fun c7 => ?_)
      · replace H := H.1 c7
        refine vx_iconst (n := 0) (q := 51) (by decide +kernel) ?_
        refine vx_retZ (q := 52) (by decide +kernel) (Or.inl rfl) ?_
        exact H
      · replace H := H.2 c7
        refine vx_iconst (n := 1) (q := 47) (by decide +kernel) ?_
        refine vx_goto (off := 4) (q := 50) (t := 51) (by decide +kernel) ?_
        refine vx_retZ (q := 52) (by decide +kernel) (Or.inr rfl) ?_
        exact H
-- RuleHouseModel.bind(II)V
theorem vg_48 {d : Nat} {h : ve_H} {P : ve_H → Prop} {x1 : Int} {x2 : Int} (hT : vx_T 625 672 h) (H : (0 ≤ ((4 * x1) + x2) ∧ ((4 * x1) + x2) < 1464) ∧ (((vx_J h 645 ((4 * x1) + x2).toNat) ≠ 1 → P h) ∧ ((vx_J h 645 ((4 * x1) + x2).toNat) = 1 → (0 ≤ ((4 * x1) + x2) ∧ ((4 * x1) + x2) < 1464) ∧ (0 ≤ (vx_K h 646 ((4 * x1) + x2).toNat) ∧ (vx_K h 646 ((4 * x1) + x2).toNat) < 9) ∧ (∀ h5, h5 = vx_sJ h 657 (vx_K h 646 ((4 * x1) + x2).toNat).toNat 1 → vx_T 625 672 h5 → P h5)))) : vx_CV d 48 [.ref 625, .int (vx_i x1), .int (vx_i x2)] h P := by
  refine vx_enter (ml := 3) (by decide +kernel) ?_
  show vx_W _ _ 0 [some (.ref 625), some (.int (vx_i x1)), some (.int (vx_i x2))] [] h _
  refine vx_aload_n (n := 0) (q := 1) (by decide +kernel) rfl ?_
  refine vx_getR (b := 645) (idx := 68) (kd := 9) (s := 26) (fin := true) (q := 4) (by decide +kernel) (vx_Tk hT (by decide +kernel)) (vx_Tr hT (kd := 9) (by decide +kernel) (by decide +kernel) (by decide +kernel)) ?_
  refine vx_iconst (n := 4) (q := 5) (by decide +kernel) ?_
  refine vx_iload_n (n := 1) (q := 6) (by decide +kernel) rfl ?_
  refine vx_imul (q := 7) (by decide +kernel) ?_
  refine vx_iload_n (n := 2) (q := 8) (by decide +kernel) rfl ?_
  refine vx_iadd (q := 9) (by decide +kernel) ?_
  obtain ⟨k1, H⟩ := H
  refine vx_iaload (z := 1464) (q := 10) (by decide +kernel) (vx_Tk hT (by decide +kernel)) (vx_Tz hT (by decide +kernel)) (vx_ix k1 (by decide)) ?_
  refine vx_iconst (n := 1) (q := 11) (by decide +kernel) ?_
  refine vx_icmp_ne (off := 20) (q := 14) (t := 31) (by decide +kernel) (vx_rI_J h 645 ((4 * x1) + x2).toNat) (by decide) (fun c2 => ?_) (fun c2 => ?_)
  · replace H := H.1 c2
    refine vx_retV (q := 32) (by decide +kernel) ?_
    exact H
  · replace H := H.2 c2
    refine vx_aload_n (n := 0) (q := 15) (by decide +kernel) rfl ?_
    refine vx_getR (b := 657) (idx := 108) (kd := 9) (s := 45) (fin := true) (q := 18) (by decide +kernel) (vx_Tk hT (by decide +kernel)) (vx_Tr hT (kd := 9) (by decide +kernel) (by decide +kernel) (by decide +kernel)) ?_
    refine vx_aload_n (n := 0) (q := 19) (by decide +kernel) rfl ?_
    refine vx_getR (b := 646) (idx := 71) (kd := 9) (s := 27) (fin := true) (q := 22) (by decide +kernel) (vx_Tk hT (by decide +kernel)) (vx_Tr hT (kd := 9) (by decide +kernel) (by decide +kernel) (by decide +kernel)) ?_
    refine vx_iconst (n := 4) (q := 23) (by decide +kernel) ?_
    refine vx_iload_n (n := 1) (q := 24) (by decide +kernel) rfl ?_
    refine vx_imul (q := 25) (by decide +kernel) ?_
    refine vx_iload_n (n := 2) (q := 26) (by decide +kernel) rfl ?_
    refine vx_iadd (q := 27) (by decide +kernel) ?_
    obtain ⟨k3, H⟩ := H
    refine vx_laload (z := 1464) (q := 28) (by decide +kernel) (vx_Tk hT (by decide +kernel)) (vx_Tz hT (by decide +kernel)) (vx_ix k3 (by decide)) ?_
    refine vx_l2i (q := 29) (by decide +kernel) ?_
    refine vx_iconst (n := 1) (q := 30) (by decide +kernel) ?_
    obtain ⟨k4, H⟩ := H
    refine vx_zastore (z := 9) (q := 31) (by decide +kernel) (vx_Tk hT (by decide +kernel)) (vx_Tz hT (by decide +kernel)) (vx_ix k4 (by decide)) (Or.inr rfl) (fun h5 e5 => ?_)
    have hT5 := vx_TJ hT e5
    replace H := H h5 e5 hT5
    refine vx_retV (q := 32) (by decide +kernel) ?_
    exact H
-- RuleHouseModel.predicateSizeOf(I)I
theorem vg_50 {d : Nat} {h : ve_H} {P : Int → ve_H → Prop} {x1 : Int} (hT : vx_T 625 672 h) (H : (0 ≤ x1 ∧ x1 < 366) ∧ P (vx_J h 661 x1.toNat) h) : vx_CI d 50 [.ref 625, .int (vx_i x1)] h P := by
  refine vx_enter (ml := 2) (by decide +kernel) ?_
  show vx_W _ _ 0 [some (.ref 625), some (.int (vx_i x1))] [] h _
  refine vx_aload_n (n := 0) (q := 1) (by decide +kernel) rfl ?_
  refine vx_getR (b := 661) (idx := 121) (kd := 9) (s := 60) (fin := true) (q := 4) (by decide +kernel) (vx_Tk hT (by decide +kernel)) (vx_Tr hT (kd := 9) (by decide +kernel) (by decide +kernel) (by decide +kernel)) ?_
  refine vx_iload_n (n := 1) (q := 5) (by decide +kernel) rfl ?_
  obtain ⟨k1, H⟩ := H
  refine vx_iaload (z := 366) (q := 6) (by decide +kernel) (vx_Tk hT (by decide +kernel)) (vx_Tz hT (by decide +kernel)) (vx_ix k1 (by decide)) ?_
  refine vx_retI (q := 7) (by decide +kernel) (vx_rI_J h 661 x1.toNat) ?_
  exact H
-- RuleHouseModel.beginClause(I)V
theorem vg_51 {d : Nat} {h : ve_H} {P : ve_H → Prop} {x1 : Int} (hT : vx_T 625 672 h) (H : (∀ h1, h1 = vx_sJ h 625 42 x1 → vx_T 625 672 h1 → (0 ≤ x1 ∧ x1 < 61) ∧ (∀ h3, h3 = vx_sJ h1 642 x1.toNat 0 → vx_T 625 672 h3 → (0 ≤ x1 ∧ x1 < 61) ∧ (∀ h5, h5 = vx_sJ h3 641 x1.toNat 0 → vx_T 625 672 h5 → (0 ≤ x1 ∧ x1 < 61) ∧ (∀ h7, h7 = vx_sJ h5 639 x1.toNat 0 → vx_T 625 672 h7 → (∀ h8, h8 = vx_sJ h7 625 54 0 → vx_T 625 672 h8 → (∀ h9, h9 = vx_sJ h8 625 53 ((-1)) → vx_T 625 672 h9 → P h9))))))) : vx_CV d 51 [.ref 625, .int (vx_i x1)] h P := by
  refine vx_enter (ml := 2) (by decide +kernel) ?_
  show vx_W _ _ 0 [some (.ref 625), some (.int (vx_i x1))] [] h _
  refine vx_aload_n (n := 0) (q := 1) (by decide +kernel) rfl ?_
  refine vx_iload_n (n := 1) (q := 2) (by decide +kernel) rfl ?_
  refine vx_putI (idx := 223) (kd := 9) (s := 42) (fin := false) (q := 5) (by decide +kernel) (vx_Tk hT (by decide +kernel)) (fun h1 e1 => ?_)
  have hT1 := vx_TJ hT e1
  replace H := H h1 e1 hT1
  refine vx_aload_n (n := 0) (q := 6) (by decide +kernel) rfl ?_
  refine vx_getR (b := 642) (idx := 59) (kd := 9) (s := 23) (fin := true) (q := 9) (by decide +kernel) (vx_Tk hT1 (by decide +kernel)) (vx_Tr hT1 (kd := 9) (by decide +kernel) (by decide +kernel) (by decide +kernel)) ?_
  refine vx_iload_n (n := 1) (q := 10) (by decide +kernel) rfl ?_
  refine vx_iconst (n := 0) (q := 11) (by decide +kernel) ?_
  obtain ⟨k2, H⟩ := H
  refine vx_iastore (z := 61) (q := 12) (by decide +kernel) (vx_Tk hT1 (by decide +kernel)) (vx_Tz hT1 (by decide +kernel)) (vx_ix k2 (by decide)) (fun h3 e3 => ?_)
  have hT3 := vx_TJ hT1 e3
  replace H := H h3 e3 hT3
  refine vx_aload_n (n := 0) (q := 13) (by decide +kernel) rfl ?_
  refine vx_getR (b := 641) (idx := 56) (kd := 9) (s := 22) (fin := true) (q := 16) (by decide +kernel) (vx_Tk hT3 (by decide +kernel)) (vx_Tr hT3 (kd := 9) (by decide +kernel) (by decide +kernel) (by decide +kernel)) ?_
  refine vx_iload_n (n := 1) (q := 17) (by decide +kernel) rfl ?_
  refine vx_iconst (n := 0) (q := 18) (by decide +kernel) ?_
  obtain ⟨k4, H⟩ := H
  refine vx_iastore (z := 61) (q := 19) (by decide +kernel) (vx_Tk hT3 (by decide +kernel)) (vx_Tz hT3 (by decide +kernel)) (vx_ix k4 (by decide)) (fun h5 e5 => ?_)
  have hT5 := vx_TJ hT3 e5
  replace H := H h5 e5 hT5
  refine vx_aload_n (n := 0) (q := 20) (by decide +kernel) rfl ?_
  refine vx_getR (b := 639) (idx := 50) (kd := 9) (s := 20) (fin := true) (q := 23) (by decide +kernel) (vx_Tk hT5 (by decide +kernel)) (vx_Tr hT5 (kd := 9) (by decide +kernel) (by decide +kernel) (by decide +kernel)) ?_
  refine vx_iload_n (n := 1) (q := 24) (by decide +kernel) rfl ?_
  refine vx_iconst (n := 0) (q := 25) (by decide +kernel) ?_
  obtain ⟨k6, H⟩ := H
  refine vx_iastore (z := 61) (q := 26) (by decide +kernel) (vx_Tk hT5 (by decide +kernel)) (vx_Tz hT5 (by decide +kernel)) (vx_ix k6 (by decide)) (fun h7 e7 => ?_)
  have hT7 := vx_TJ hT5 e7
  replace H := H h7 e7 hT7
  refine vx_aload_n (n := 0) (q := 27) (by decide +kernel) rfl ?_
  refine vx_iconst (n := 0) (q := 28) (by decide +kernel) ?_
  refine vx_putI (idx := 259) (kd := 9) (s := 54) (fin := false) (q := 31) (by decide +kernel) (vx_Tk hT7 (by decide +kernel)) (fun h8 e8 => ?_)
  have hT8 := vx_TJ hT7 e8
  replace H := H h8 e8 hT8
  refine vx_aload_n (n := 0) (q := 32) (by decide +kernel) rfl ?_
  refine vx_iconst (n := (-1)) (q := 33) (by decide +kernel) ?_
  refine vx_putI (idx := 268) (kd := 9) (s := 53) (fin := false) (q := 36) (by decide +kernel) (vx_Tk hT8 (by decide +kernel)) (fun h9 e9 => ?_)
  have hT9 := vx_TJ hT8 e9
  replace H := H h9 e9 hT9
  refine vx_retV (q := 37) (by decide +kernel) ?_
  exact H
-- RuleHouseModel.layHead()V
theorem vg_52 {d : Nat} {h : ve_H} {P : ve_H → Prop}  (hT : vx_T 625 672 h) (H : (0 ≤ (vx_J h 625 42) ∧ (vx_J h 625 42) < 61) ∧ (∀ h2, h2 = vx_sJ h 636 (vx_J h 625 42).toNat (vx_J h 625 57) → vx_T 625 672 h2 → vx_W d 52 15 [some (.ref 625), some (.int (vx_i 0))] [] h2 (vx_RV P))) : vx_CV d 52 [.ref 625] h P := by
  refine vx_enter (ml := 2) (by decide +kernel) ?_
  show vx_W _ _ 0 [some (.ref 625), none] [] h _
  refine vx_aload_n (n := 0) (q := 1) (by decide +kernel) rfl ?_
  refine vx_getR (b := 636) (idx := 41) (kd := 9) (s := 17) (fin := true) (q := 4) (by decide +kernel) (vx_Tk hT (by decide +kernel)) (vx_Tr hT (kd := 9) (by decide +kernel) (by decide +kernel) (by decide +kernel)) ?_
  refine vx_aload_n (n := 0) (q := 5) (by decide +kernel) rfl ?_
  refine vx_getI (idx := 223) (kd := 9) (s := 42) (fin := false) (q := 8) (by decide +kernel) (vx_Tk hT (by decide +kernel)) ?_
  refine vx_aload_n (n := 0) (q := 9) (by decide +kernel) rfl ?_
  refine vx_getI (idx := 278) (kd := 9) (s := 57) (fin := false) (q := 12) (by decide +kernel) (vx_Tk hT (by decide +kernel)) ?_
  obtain ⟨k1, H⟩ := H
  refine vx_iastore (z := 61) (q := 13) (by decide +kernel) (vx_Tk hT (by decide +kernel)) (vx_Tz hT (by decide +kernel)) (vx_ix k1 (by decide)) (fun h2 e2 => ?_)
  have hT2 := vx_TJ hT e2
  replace H := H h2 e2 hT2
  refine vx_iconst (n := 0) (q := 14) (by decide +kernel) ?_
  refine vx_istore_n (n := 1) (q := 15) (lv' := [some (.ref 625), some (.int (vx_i 0))]) (by decide +kernel) rfl ?_
  exact H
theorem vg_52_15 {d : Nat} {h : ve_H} {P : ve_H → Prop} {v1 : Int} (hT : vx_T 625 672 h) (H : (vx_rI v1) ∧ (((vx_J h 625 50) ≤ v1 → (0 ≤ (vx_J h 625 42) ∧ (vx_J h 625 42) < 61) ∧ (∀ h4, h4 = vx_sJ h 639 (vx_J h 625 42).toNat (vx_J h 625 54) → vx_T 625 672 h4 → (0 ≤ (vx_J h4 625 42) ∧ (vx_J h4 625 42) < 61) ∧ (∀ h6, h6 = vx_sJ h4 640 (vx_J h4 625 42).toNat (vx_J h4 625 55) → vx_T 625 672 h6 → (0 ≤ (vx_J h6 625 42) ∧ (vx_J h6 625 42) < 61) ∧ (∀ h8, h8 = vx_sJ h6 662 (vx_J h6 625 42).toNat (vx_J h6 625 56) → vx_T 625 672 h8 → P h8)))) ∧ (v1 < (vx_J h 625 50) → (0 ≤ v1 ∧ v1 < 4) ∧ (0 ≤ ((4 * (vx_J h 625 42)) + v1) ∧ ((4 * (vx_J h 625 42)) + v1) < 244) ∧ (∀ h11, h11 = vx_sJ h 637 ((4 * (vx_J h 625 42)) + v1).toNat (vx_J h 658 v1.toNat) → vx_T 625 672 h11 → (0 ≤ v1 ∧ v1 < 4) ∧ (0 ≤ ((4 * (vx_J h11 625 42)) + v1) ∧ ((4 * (vx_J h11 625 42)) + v1) < 244) ∧ (∀ h14, h14 = vx_sK h11 638 ((4 * (vx_J h11 625 42)) + v1).toNat (vx_K h11 659 v1.toNat) → vx_T 625 672 h14 → vx_W d 52 15 [some (.ref 625), some (.int (vx_i (v1 + 1)))] [] h14 (vx_RV P)))))) : vx_W d 52 15 [some (.ref 625), some (.int (vx_i v1))] [] h (vx_RV P) := by
  refine vx_iload_n (n := 1) (q := 16) (by decide +kernel) rfl ?_
  refine vx_aload_n (n := 0) (q := 17) (by decide +kernel) rfl ?_
  refine vx_getI (idx := 253) (kd := 9) (s := 50) (fin := false) (q := 20) (by decide +kernel) (vx_Tk hT (by decide +kernel)) ?_
  obtain ⟨k1, H⟩ := H
  refine vx_icmp_ge (off := 47) (q := 23) (t := 67) (by decide +kernel) k1 (vx_rI_J h 625 50) (fun c2 => ?_) (fun c2 => ?_)
  · replace H := H.1 c2
    refine vx_aload_n (n := 0) (q := 68) (by decide +kernel) rfl ?_
    refine vx_getR (b := 639) (idx := 50) (kd := 9) (s := 20) (fin := true) (q := 71) (by decide +kernel) (vx_Tk hT (by decide +kernel)) (vx_Tr hT (kd := 9) (by decide +kernel) (by decide +kernel) (by decide +kernel)) ?_
    refine vx_aload_n (n := 0) (q := 72) (by decide +kernel) rfl ?_
    refine vx_getI (idx := 223) (kd := 9) (s := 42) (fin := false) (q := 75) (by decide +kernel) (vx_Tk hT (by decide +kernel)) ?_
    refine vx_aload_n (n := 0) (q := 76) (by decide +kernel) rfl ?_
    refine vx_getI (idx := 259) (kd := 9) (s := 54) (fin := false) (q := 79) (by decide +kernel) (vx_Tk hT (by decide +kernel)) ?_
    obtain ⟨k3, H⟩ := H
    refine vx_iastore (z := 61) (q := 80) (by decide +kernel) (vx_Tk hT (by decide +kernel)) (vx_Tz hT (by decide +kernel)) (vx_ix k3 (by decide)) (fun h4 e4 => ?_)
    have hT4 := vx_TJ hT e4
    replace H := H h4 e4 hT4
    refine vx_aload_n (n := 0) (q := 81) (by decide +kernel) rfl ?_
    refine vx_getR (b := 640) (idx := 53) (kd := 9) (s := 21) (fin := true) (q := 84) (by decide +kernel) (vx_Tk hT4 (by decide +kernel)) (vx_Tr hT4 (kd := 9) (by decide +kernel) (by decide +kernel) (by decide +kernel)) ?_
    refine vx_aload_n (n := 0) (q := 85) (by decide +kernel) rfl ?_
    refine vx_getI (idx := 223) (kd := 9) (s := 42) (fin := false) (q := 88) (by decide +kernel) (vx_Tk hT4 (by decide +kernel)) ?_
    refine vx_aload_n (n := 0) (q := 89) (by decide +kernel) rfl ?_
    refine vx_getI (idx := 262) (kd := 9) (s := 55) (fin := false) (q := 92) (by decide +kernel) (vx_Tk hT4 (by decide +kernel)) ?_
    obtain ⟨k5, H⟩ := H
    refine vx_iastore (z := 61) (q := 93) (by decide +kernel) (vx_Tk hT4 (by decide +kernel)) (vx_Tz hT4 (by decide +kernel)) (vx_ix k5 (by decide)) (fun h6 e6 => ?_)
    have hT6 := vx_TJ hT4 e6
    replace H := H h6 e6 hT6
    refine vx_aload_n (n := 0) (q := 94) (by decide +kernel) rfl ?_
    refine vx_getR (b := 662) (idx := 124) (kd := 9) (s := 61) (fin := true) (q := 97) (by decide +kernel) (vx_Tk hT6 (by decide +kernel)) (vx_Tr hT6 (kd := 9) (by decide +kernel) (by decide +kernel) (by decide +kernel)) ?_
    refine vx_aload_n (n := 0) (q := 98) (by decide +kernel) rfl ?_
    refine vx_getI (idx := 223) (kd := 9) (s := 42) (fin := false) (q := 101) (by decide +kernel) (vx_Tk hT6 (by decide +kernel)) ?_
    refine vx_aload_n (n := 0) (q := 102) (by decide +kernel) rfl ?_
    refine vx_getI (idx := 265) (kd := 9) (s := 56) (fin := false) (q := 105) (by decide +kernel) (vx_Tk hT6 (by decide +kernel)) ?_
    obtain ⟨k7, H⟩ := H
    refine vx_iastore (z := 61) (q := 106) (by decide +kernel) (vx_Tk hT6 (by decide +kernel)) (vx_Tz hT6 (by decide +kernel)) (vx_ix k7 (by decide)) (fun h8 e8 => ?_)
    have hT8 := vx_TJ hT6 e8
    replace H := H h8 e8 hT8
    refine vx_retV (q := 107) (by decide +kernel) ?_
    exact H
  · replace H := H.2 c2
    refine vx_aload_n (n := 0) (q := 24) (by decide +kernel) rfl ?_
    refine vx_getR (b := 637) (idx := 44) (kd := 9) (s := 18) (fin := true) (q := 27) (by decide +kernel) (vx_Tk hT (by decide +kernel)) (vx_Tr hT (kd := 9) (by decide +kernel) (by decide +kernel) (by decide +kernel)) ?_
    refine vx_iconst (n := 4) (q := 28) (by decide +kernel) ?_
    refine vx_aload_n (n := 0) (q := 29) (by decide +kernel) rfl ?_
    refine vx_getI (idx := 223) (kd := 9) (s := 42) (fin := false) (q := 32) (by decide +kernel) (vx_Tk hT (by decide +kernel)) ?_
    refine vx_imul (q := 33) (by decide +kernel) ?_
    refine vx_iload_n (n := 1) (q := 34) (by decide +kernel) rfl ?_
    refine vx_iadd (q := 35) (by decide +kernel) ?_
    refine vx_aload_n (n := 0) (q := 36) (by decide +kernel) rfl ?_
    refine vx_getR (b := 658) (idx := 112) (kd := 9) (s := 51) (fin := true) (q := 39) (by decide +kernel) (vx_Tk hT (by decide +kernel)) (vx_Tr hT (kd := 9) (by decide +kernel) (by decide +kernel) (by decide +kernel)) ?_
    refine vx_iload_n (n := 1) (q := 40) (by decide +kernel) rfl ?_
    obtain ⟨k9, H⟩ := H
    refine vx_iaload (z := 4) (q := 41) (by decide +kernel) (vx_Tk hT (by decide +kernel)) (vx_Tz hT (by decide +kernel)) (vx_ix k9 (by decide)) ?_
    obtain ⟨k10, H⟩ := H
    refine vx_iastore (z := 244) (q := 42) (by decide +kernel) (vx_Tk hT (by decide +kernel)) (vx_Tz hT (by decide +kernel)) (vx_ix k10 (by decide)) (fun h11 e11 => ?_)
    have hT11 := vx_TJ hT e11
    replace H := H h11 e11 hT11
    refine vx_aload_n (n := 0) (q := 43) (by decide +kernel) rfl ?_
    refine vx_getR (b := 638) (idx := 47) (kd := 9) (s := 19) (fin := true) (q := 46) (by decide +kernel) (vx_Tk hT11 (by decide +kernel)) (vx_Tr hT11 (kd := 9) (by decide +kernel) (by decide +kernel) (by decide +kernel)) ?_
    refine vx_iconst (n := 4) (q := 47) (by decide +kernel) ?_
    refine vx_aload_n (n := 0) (q := 48) (by decide +kernel) rfl ?_
    refine vx_getI (idx := 223) (kd := 9) (s := 42) (fin := false) (q := 51) (by decide +kernel) (vx_Tk hT11 (by decide +kernel)) ?_
    refine vx_imul (q := 52) (by decide +kernel) ?_
    refine vx_iload_n (n := 1) (q := 53) (by decide +kernel) rfl ?_
    refine vx_iadd (q := 54) (by decide +kernel) ?_
    refine vx_aload_n (n := 0) (q := 55) (by decide +kernel) rfl ?_
    refine vx_getR (b := 659) (idx := 115) (kd := 9) (s := 52) (fin := true) (q := 58) (by decide +kernel) (vx_Tk hT11 (by decide +kernel)) (vx_Tr hT11 (kd := 9) (by decide +kernel) (by decide +kernel) (by decide +kernel)) ?_
    refine vx_iload_n (n := 1) (q := 59) (by decide +kernel) rfl ?_
    obtain ⟨k12, H⟩ := H
    refine vx_laload (z := 4) (q := 60) (by decide +kernel) (vx_Tk hT11 (by decide +kernel)) (vx_Tz hT11 (by decide +kernel)) (vx_ix k12 (by decide)) ?_
    obtain ⟨k13, H⟩ := H
    refine vx_lastore (z := 244) (q := 61) (by decide +kernel) (vx_Tk hT11 (by decide +kernel)) (vx_Tz hT11 (by decide +kernel)) (vx_ix k13 (by decide)) (fun h14 e14 => ?_)
    have hT14 := vx_TK hT11 e14
    replace H := H h14 e14 hT14
    refine vx_iinc (n := 1) (m := 1) (x := v1) (q := 64) (lv' := [some (.ref 625), some (.int (vx_i (v1 + 1)))]) (by decide +kernel) rfl rfl ?_
    refine vx_goto (off := (-49)) (q := 67) (t := 15) (by decide +kernel) ?_
    exact H
-- RuleHouseModel.findFact()I
theorem vg_53 {d : Nat} {h : ve_H} {P : Int → ve_H → Prop}  (hT : vx_T 625 672 h) (H : vx_W d 53 9 [some (.ref 625), some (.int (vx_i (400 * (vx_J h 625 48)))), none, none] [] h (vx_RI P)) : vx_CI d 53 [.ref 625] h P := by
  refine vx_enter (ml := 4) (by decide +kernel) ?_
  show vx_W _ _ 0 [some (.ref 625), none, none, none] [] h _
  refine vx_sipush (n := 400) (q := 3) (by decide +kernel) ?_
  refine vx_aload_n (n := 0) (q := 4) (by decide +kernel) rfl ?_
  refine vx_getI (idx := 238) (kd := 9) (s := 48) (fin := false) (q := 7) (by decide +kernel) (vx_Tk hT (by decide +kernel)) ?_
  refine vx_imul (q := 8) (by decide +kernel) ?_
  refine vx_istore_n (n := 1) (q := 9) (lv' := [some (.ref 625), some (.int (vx_i (400 * (vx_J h 625 48)))), none, none]) (by decide +kernel) rfl ?_
  exact H
theorem vg_53_9 {d : Nat} {h : ve_H} {P : Int → ve_H → Prop} {v1 : Int} {v2 : Option Value} {v3 : Option Value} (hT : vx_T 625 672 h) (H : (0 ≤ (vx_J h 625 48) ∧ (vx_J h 625 48) < 2) ∧ (vx_rI v1) ∧ (vx_rI ((400 * (vx_J h 625 48)) + (vx_J h 647 (vx_J h 625 48).toNat))) ∧ ((((400 * (vx_J h 625 48)) + (vx_J h 647 (vx_J h 625 48).toNat)) ≤ v1 → P ((-1)) h) ∧ (v1 < ((400 * (vx_J h 625 48)) + (vx_J h 647 (vx_J h 625 48).toNat)) → (0 ≤ v1 ∧ v1 < 800) ∧ (((vx_J h 648 v1.toNat) ≠ (vx_J h 625 57) → vx_W d 53 52 [some (.ref 625), some (.int (vx_i v1)), some (.int (vx_i 0)), some (.int (vx_i 0))] [] h (vx_RI P)) ∧ ((vx_J h 648 v1.toNat) = (vx_J h 625 57) → vx_W d 53 52 [some (.ref 625), some (.int (vx_i v1)), some (.int (vx_i 1)), some (.int (vx_i 0))] [] h (vx_RI P)))))) : vx_W d 53 9 [some (.ref 625), some (.int (vx_i v1)), v2, v3] [] h (vx_RI P) := by
  refine vx_iload_n (n := 1) (q := 10) (by decide +kernel) rfl ?_
  refine vx_sipush (n := 400) (q := 13) (by decide +kernel) ?_
  refine vx_aload_n (n := 0) (q := 14) (by decide +kernel) rfl ?_
  refine vx_getI (idx := 238) (kd := 9) (s := 48) (fin := false) (q := 17) (by decide +kernel) (vx_Tk hT (by decide +kernel)) ?_
  refine vx_imul (q := 18) (by decide +kernel) ?_
  refine vx_aload_n (n := 0) (q := 19) (by decide +kernel) rfl ?_
  refine vx_getR (b := 647) (idx := 74) (kd := 9) (s := 28) (fin := true) (q := 22) (by decide +kernel) (vx_Tk hT (by decide +kernel)) (vx_Tr hT (kd := 9) (by decide +kernel) (by decide +kernel) (by decide +kernel)) ?_
  refine vx_aload_n (n := 0) (q := 23) (by decide +kernel) rfl ?_
  refine vx_getI (idx := 238) (kd := 9) (s := 48) (fin := false) (q := 26) (by decide +kernel) (vx_Tk hT (by decide +kernel)) ?_
  obtain ⟨k1, H⟩ := H
  refine vx_iaload (z := 2) (q := 27) (by decide +kernel) (vx_Tk hT (by decide +kernel)) (vx_Tz hT (by decide +kernel)) (vx_ix k1 (by decide)) ?_
  refine vx_iadd (q := 28) (by decide +kernel) ?_
  obtain ⟨k2, H⟩ := H
  obtain ⟨k3, H⟩ := H
  refine vx_icmp_ge (off := 80) (q := 31) (t := 108) (by decide +kernel) k2 k3 (fun c4 => ?_) (fun c4 => ?_)
  · replace H := H.1 c4
    refine vx_iconst (n := (-1)) (q := 109) (by decide +kernel) ?_
    refine vx_retI (q := 110) (by decide +kernel) (by decide) ?_
    exact H
  · replace H := H.2 c4
    refine vx_aload_n (n := 0) (q := 32) (by decide +kernel) rfl ?_
    refine vx_getR (b := 648) (idx := 77) (kd := 9) (s := 29) (fin := true) (q := 35) (by decide +kernel) (vx_Tk hT (by decide +kernel)) (vx_Tr hT (kd := 9) (by decide +kernel) (by decide +kernel) (by decide +kernel)) ?_
    refine vx_iload_n (n := 1) (q := 36) (by decide +kernel) rfl ?_
    obtain ⟨k5, H⟩ := H
    refine vx_iaload (z := 800) (q := 37) (by decide +kernel) (vx_Tk hT (by decide +kernel)) (vx_Tz hT (by decide +kernel)) (vx_ix k5 (by decide)) ?_
    refine vx_aload_n (n := 0) (q := 38) (by decide +kernel) rfl ?_
    refine vx_getI (idx := 278) (kd := 9) (s := 57) (fin := false) (q := 41) (by decide +kernel) (vx_Tk hT (by decide +kernel)) ?_
    refine vx_icmp_ne (off := 7) (q := 44) (t := 48) (by decide +kernel) (vx_rI_J h 648 v1.toNat) (vx_rI_J h 625 57) (fun c6 => ?_) (fun c6 => ?_)
    · replace H := H.1 c6
      refine vx_iconst (n := 0) (q := 49) (by decide +kernel) ?_
      refine vx_istore_n (n := 2) (q := 50) (lv' := [some (.ref 625), some (.int (vx_i v1)), some (.int (vx_i 0)), v3]) (by decide +kernel) rfl ?_
      refine vx_iconst (n := 0) (q := 51) (by decide +kernel) ?_
      refine vx_istore_n (n := 3) (q := 52) (lv' := [some (.ref 625), some (.int (vx_i v1)), some (.int (vx_i 0)), some (.int (vx_i 0))]) (by decide +kernel) rfl ?_
      exact H
    · replace H := H.2 c6
      refine vx_iconst (n := 1) (q := 45) (by decide +kernel) ?_
      refine vx_goto (off := 4) (q := 48) (t := 49) (by decide +kernel) ?_
      refine vx_istore_n (n := 2) (q := 50) (lv' := [some (.ref 625), some (.int (vx_i v1)), some (.int (vx_i 1)), v3]) (by decide +kernel) rfl ?_
      refine vx_iconst (n := 0) (q := 51) (by decide +kernel) ?_
      refine vx_istore_n (n := 3) (q := 52) (lv' := [some (.ref 625), some (.int (vx_i v1)), some (.int (vx_i 1)), some (.int (vx_i 0))]) (by decide +kernel) rfl ?_
      exact H
theorem vg_53_52 {d : Nat} {h : ve_H} {P : Int → ve_H → Prop} {v1 : Int} {v2 : Int} {v3 : Int} (hT : vx_T 625 672 h) (H : (vx_rI v2) ∧ ((v2 = 0 → vx_W d 53 9 [some (.ref 625), some (.int (vx_i (v1 + 1))), some (.int (vx_i v2)), some (.int (vx_i v3))] [] h (vx_RI P)) ∧ (v2 ≠ 0 → (vx_rI v3) ∧ (((vx_J h 625 50) ≤ v3 → (vx_rI v1) ∧ P v1 h) ∧ (v3 < (vx_J h 625 50) → (0 ≤ ((4 * v1) + v3) ∧ ((4 * v1) + v3) < 3200) ∧ (0 ≤ v3 ∧ v3 < 4) ∧ (((vx_K h 649 ((4 * v1) + v3).toNat) ≠ (vx_K h 659 v3.toNat) → vx_W d 53 52 [some (.ref 625), some (.int (vx_i v1)), some (.int (vx_i 0)), some (.int (vx_i (v3 + 1)))] [] h (vx_RI P)) ∧ ((vx_K h 649 ((4 * v1) + v3).toNat) = (vx_K h 659 v3.toNat) → vx_W d 53 52 [some (.ref 625), some (.int (vx_i v1)), some (.int (vx_i 1)), some (.int (vx_i (v3 + 1)))] [] h (vx_RI P)))))))) : vx_W d 53 52 [some (.ref 625), some (.int (vx_i v1)), some (.int (vx_i v2)), some (.int (vx_i v3))] [] h (vx_RI P) := by
  refine vx_iload_n (n := 2) (q := 53) (by decide +kernel) rfl ?_
  obtain ⟨k1, H⟩ := H
  refine vx_if0_eq (off := 43) (q := 56) (t := 96) (by decide +kernel) k1 (fun c2 => ?_) (fun c2 => ?_)
  · replace H := H.1 c2
    refine vx_iload_n (n := 2) (q := 97) (by decide +kernel) rfl ?_
    refine vx_if0_eq (off := 5) (q := 100) (t := 102) (by decide +kernel) k1 (fun _ => ?_) (fun c => absurd c (by omega))
    refine vx_iinc (n := 1) (m := 1) (x := v1) (q := 105) (lv' := [some (.ref 625), some (.int (vx_i (v1 + 1))), some (.int (vx_i v2)), some (.int (vx_i v3))]) (by decide +kernel) rfl rfl ?_
    refine vx_goto (off := (-96)) (q := 108) (t := 9) (by decide +kernel) ?_
    exact H
  · replace H := H.2 c2
    refine vx_iload_n (n := 3) (q := 57) (by decide +kernel) rfl ?_
    refine vx_aload_n (n := 0) (q := 58) (by decide +kernel) rfl ?_
    refine vx_getI (idx := 253) (kd := 9) (s := 50) (fin := false) (q := 61) (by decide +kernel) (vx_Tk hT (by decide +kernel)) ?_
    obtain ⟨k3, H⟩ := H
    refine vx_icmp_ge (off := 35) (q := 64) (t := 96) (by decide +kernel) k3 (vx_rI_J h 625 50) (fun c4 => ?_) (fun c4 => ?_)
    · replace H := H.1 c4
      refine vx_iload_n (n := 2) (q := 97) (by decide +kernel) rfl ?_
      refine vx_if0_eq (off := 5) (q := 100) (t := 102) (by decide +kernel) k1 (fun c => absurd c (by omega)) (fun _ => ?_)
      refine vx_iload_n (n := 1) (q := 101) (by decide +kernel) rfl ?_
      obtain ⟨k5, H⟩ := H
      refine vx_retI (q := 102) (by decide +kernel) k5 ?_
      exact H
    · replace H := H.2 c4
      refine vx_aload_n (n := 0) (q := 65) (by decide +kernel) rfl ?_
      refine vx_getR (b := 649) (idx := 80) (kd := 9) (s := 30) (fin := true) (q := 68) (by decide +kernel) (vx_Tk hT (by decide +kernel)) (vx_Tr hT (kd := 9) (by decide +kernel) (by decide +kernel) (by decide +kernel)) ?_
      refine vx_iconst (n := 4) (q := 69) (by decide +kernel) ?_
      refine vx_iload_n (n := 1) (q := 70) (by decide +kernel) rfl ?_
      refine vx_imul (q := 71) (by decide +kernel) ?_
      refine vx_iload_n (n := 3) (q := 72) (by decide +kernel) rfl ?_
      refine vx_iadd (q := 73) (by decide +kernel) ?_
      obtain ⟨k6, H⟩ := H
      refine vx_laload (z := 3200) (q := 74) (by decide +kernel) (vx_Tk hT (by decide +kernel)) (vx_Tz hT (by decide +kernel)) (vx_ix k6 (by decide)) ?_
      refine vx_aload_n (n := 0) (q := 75) (by decide +kernel) rfl ?_
      refine vx_getR (b := 659) (idx := 115) (kd := 9) (s := 52) (fin := true) (q := 78) (by decide +kernel) (vx_Tk hT (by decide +kernel)) (vx_Tr hT (kd := 9) (by decide +kernel) (by decide +kernel) (by decide +kernel)) ?_
      refine vx_iload_n (n := 3) (q := 79) (by decide +kernel) rfl ?_
      obtain ⟨k7, H⟩ := H
      refine vx_laload (z := 4) (q := 80) (by decide +kernel) (vx_Tk hT (by decide +kernel)) (vx_Tz hT (by decide +kernel)) (vx_ix k7 (by decide)) ?_
      refine vx_lc_ne (off := 7) (p := 81) (q := 84) (t := 88) (by decide +kernel) (vx_rL_K h 649 ((4 * v1) + v3).toNat) (vx_rL_K h 659 v3.toNat) (fun c8 => ?_) (fun c8 => ?_)
      · replace H := H.1 c8
        refine vx_iconst (n := 0) (q := 89) (by decide +kernel) ?_
        refine vx_istore_n (n := 2) (q := 90) (lv' := [some (.ref 625), some (.int (vx_i v1)), some (.int (vx_i 0)), some (.int (vx_i v3))]) (by decide +kernel) rfl ?_
        refine vx_iinc (n := 3) (m := 1) (x := v3) (q := 93) (lv' := [some (.ref 625), some (.int (vx_i v1)), some (.int (vx_i 0)), some (.int (vx_i (v3 + 1)))]) (by decide +kernel) rfl rfl ?_
        refine vx_goto (off := (-41)) (q := 96) (t := 52) (by decide +kernel) ?_
        exact H
      · replace H := H.2 c8
        refine vx_iconst (n := 1) (q := 85) (by decide +kernel) ?_
        refine vx_goto (off := 4) (q := 88) (t := 89) (by decide +kernel) ?_
        refine vx_istore_n (n := 2) (q := 90) (lv' := [some (.ref 625), some (.int (vx_i v1)), some (.int (vx_i 1)), some (.int (vx_i v3))]) (by decide +kernel) rfl ?_
        refine vx_iinc (n := 3) (m := 1) (x := v3) (q := 93) (lv' := [some (.ref 625), some (.int (vx_i v1)), some (.int (vx_i 1)), some (.int (vx_i (v3 + 1)))]) (by decide +kernel) rfl rfl ?_
        refine vx_goto (off := (-41)) (q := 96) (t := 52) (by decide +kernel) ?_
        exact H
-- RuleHouseModel.addFact()V
theorem vg_54 {d : Nat} {h : ve_H} {P : ve_H → Prop}  (hT : vx_T 625 672 h) (H : (0 ≤ (vx_J h 625 48) ∧ (vx_J h 625 48) < 2) ∧ (0 ≤ ((400 * (vx_J h 625 48)) + (vx_J h 647 (vx_J h 625 48).toNat)) ∧ ((400 * (vx_J h 625 48)) + (vx_J h 647 (vx_J h 625 48).toNat)) < 800) ∧ (∀ h3, h3 = vx_sJ h 648 ((400 * (vx_J h 625 48)) + (vx_J h 647 (vx_J h 625 48).toNat)).toNat (vx_J h 625 57) → vx_T 625 672 h3 → vx_W d 54 31 [some (.ref 625), some (.int (vx_i ((400 * (vx_J h 625 48)) + (vx_J h 647 (vx_J h 625 48).toNat)))), some (.int (vx_i 0))] [] h3 (vx_RV P))) : vx_CV d 54 [.ref 625] h P := by
  refine vx_enter (ml := 3) (by decide +kernel) ?_
  show vx_W _ _ 0 [some (.ref 625), none, none] [] h _
  refine vx_sipush (n := 400) (q := 3) (by decide +kernel) ?_
  refine vx_aload_n (n := 0) (q := 4) (by decide +kernel) rfl ?_
  refine vx_getI (idx := 238) (kd := 9) (s := 48) (fin := false) (q := 7) (by decide +kernel) (vx_Tk hT (by decide +kernel)) ?_
  refine vx_imul (q := 8) (by decide +kernel) ?_
  refine vx_aload_n (n := 0) (q := 9) (by decide +kernel) rfl ?_
  refine vx_getR (b := 647) (idx := 74) (kd := 9) (s := 28) (fin := true) (q := 12) (by decide +kernel) (vx_Tk hT (by decide +kernel)) (vx_Tr hT (kd := 9) (by decide +kernel) (by decide +kernel) (by decide +kernel)) ?_
  refine vx_aload_n (n := 0) (q := 13) (by decide +kernel) rfl ?_
  refine vx_getI (idx := 238) (kd := 9) (s := 48) (fin := false) (q := 16) (by decide +kernel) (vx_Tk hT (by decide +kernel)) ?_
  obtain ⟨k1, H⟩ := H
  refine vx_iaload (z := 2) (q := 17) (by decide +kernel) (vx_Tk hT (by decide +kernel)) (vx_Tz hT (by decide +kernel)) (vx_ix k1 (by decide)) ?_
  refine vx_iadd (q := 18) (by decide +kernel) ?_
  refine vx_istore_n (n := 1) (q := 19) (lv' := [some (.ref 625), some (.int (vx_i ((400 * (vx_J h 625 48)) + (vx_J h 647 (vx_J h 625 48).toNat)))), none]) (by decide +kernel) rfl ?_
  refine vx_aload_n (n := 0) (q := 20) (by decide +kernel) rfl ?_
  refine vx_getR (b := 648) (idx := 77) (kd := 9) (s := 29) (fin := true) (q := 23) (by decide +kernel) (vx_Tk hT (by decide +kernel)) (vx_Tr hT (kd := 9) (by decide +kernel) (by decide +kernel) (by decide +kernel)) ?_
  refine vx_iload_n (n := 1) (q := 24) (by decide +kernel) rfl ?_
  refine vx_aload_n (n := 0) (q := 25) (by decide +kernel) rfl ?_
  refine vx_getI (idx := 278) (kd := 9) (s := 57) (fin := false) (q := 28) (by decide +kernel) (vx_Tk hT (by decide +kernel)) ?_
  obtain ⟨k2, H⟩ := H
  refine vx_iastore (z := 800) (q := 29) (by decide +kernel) (vx_Tk hT (by decide +kernel)) (vx_Tz hT (by decide +kernel)) (vx_ix k2 (by decide)) (fun h3 e3 => ?_)
  have hT3 := vx_TJ hT e3
  replace H := H h3 e3 hT3
  refine vx_iconst (n := 0) (q := 30) (by decide +kernel) ?_
  refine vx_istore_n (n := 2) (q := 31) (lv' := [some (.ref 625), some (.int (vx_i ((400 * (vx_J h 625 48)) + (vx_J h 647 (vx_J h 625 48).toNat)))), some (.int (vx_i 0))]) (by decide +kernel) rfl ?_
  exact H
theorem vg_54_31 {d : Nat} {h : ve_H} {P : ve_H → Prop} {v1 : Int} {v2 : Int} (hT : vx_T 625 672 h) (H : (vx_rI v2) ∧ (((vx_J h 625 50) ≤ v2 → (0 ≤ (vx_J h 625 48) ∧ (vx_J h 625 48) < 2) ∧ (0 ≤ (vx_J h 625 48) ∧ (vx_J h 625 48) < 2) ∧ (∀ h5, h5 = vx_sJ h 647 (vx_J h 625 48).toNat ((vx_J h 647 (vx_J h 625 48).toNat) + 1) → vx_T 625 672 h5 → P h5)) ∧ (v2 < (vx_J h 625 50) → (0 ≤ v2 ∧ v2 < 4) ∧ (0 ≤ ((4 * v1) + v2) ∧ ((4 * v1) + v2) < 3200) ∧ (∀ h8, h8 = vx_sK h 649 ((4 * v1) + v2).toNat (vx_K h 659 v2.toNat) → vx_T 625 672 h8 → vx_W d 54 31 [some (.ref 625), some (.int (vx_i v1)), some (.int (vx_i (v2 + 1)))] [] h8 (vx_RV P))))) : vx_W d 54 31 [some (.ref 625), some (.int (vx_i v1)), some (.int (vx_i v2))] [] h (vx_RV P) := by
  refine vx_iload_n (n := 2) (q := 32) (by decide +kernel) rfl ?_
  refine vx_aload_n (n := 0) (q := 33) (by decide +kernel) rfl ?_
  refine vx_getI (idx := 253) (kd := 9) (s := 50) (fin := false) (q := 36) (by decide +kernel) (vx_Tk hT (by decide +kernel)) ?_
  obtain ⟨k1, H⟩ := H
  refine vx_icmp_ge (off := 25) (q := 39) (t := 61) (by decide +kernel) k1 (vx_rI_J h 625 50) (fun c2 => ?_) (fun c2 => ?_)
  · replace H := H.1 c2
    refine vx_aload_n (n := 0) (q := 62) (by decide +kernel) rfl ?_
    refine vx_getR (b := 647) (idx := 74) (kd := 9) (s := 28) (fin := true) (q := 65) (by decide +kernel) (vx_Tk hT (by decide +kernel)) (vx_Tr hT (kd := 9) (by decide +kernel) (by decide +kernel) (by decide +kernel)) ?_
    refine vx_aload_n (n := 0) (q := 66) (by decide +kernel) rfl ?_
    refine vx_getI (idx := 238) (kd := 9) (s := 48) (fin := false) (q := 69) (by decide +kernel) (vx_Tk hT (by decide +kernel)) ?_
    refine vx_dup2I (q := 70) (by decide +kernel) ?_
    obtain ⟨k3, H⟩ := H
    refine vx_iaload (z := 2) (q := 71) (by decide +kernel) (vx_Tk hT (by decide +kernel)) (vx_Tz hT (by decide +kernel)) (vx_ix k3 (by decide)) ?_
    refine vx_iconst (n := 1) (q := 72) (by decide +kernel) ?_
    refine vx_iadd (q := 73) (by decide +kernel) ?_
    obtain ⟨k4, H⟩ := H
    refine vx_iastore (z := 2) (q := 74) (by decide +kernel) (vx_Tk hT (by decide +kernel)) (vx_Tz hT (by decide +kernel)) (vx_ix k4 (by decide)) (fun h5 e5 => ?_)
    have hT5 := vx_TJ hT e5
    replace H := H h5 e5 hT5
    refine vx_retV (q := 75) (by decide +kernel) ?_
    exact H
  · replace H := H.2 c2
    refine vx_aload_n (n := 0) (q := 40) (by decide +kernel) rfl ?_
    refine vx_getR (b := 649) (idx := 80) (kd := 9) (s := 30) (fin := true) (q := 43) (by decide +kernel) (vx_Tk hT (by decide +kernel)) (vx_Tr hT (kd := 9) (by decide +kernel) (by decide +kernel) (by decide +kernel)) ?_
    refine vx_iconst (n := 4) (q := 44) (by decide +kernel) ?_
    refine vx_iload_n (n := 1) (q := 45) (by decide +kernel) rfl ?_
    refine vx_imul (q := 46) (by decide +kernel) ?_
    refine vx_iload_n (n := 2) (q := 47) (by decide +kernel) rfl ?_
    refine vx_iadd (q := 48) (by decide +kernel) ?_
    refine vx_aload_n (n := 0) (q := 49) (by decide +kernel) rfl ?_
    refine vx_getR (b := 659) (idx := 115) (kd := 9) (s := 52) (fin := true) (q := 52) (by decide +kernel) (vx_Tk hT (by decide +kernel)) (vx_Tr hT (kd := 9) (by decide +kernel) (by decide +kernel) (by decide +kernel)) ?_
    refine vx_iload_n (n := 2) (q := 53) (by decide +kernel) rfl ?_
    obtain ⟨k6, H⟩ := H
    refine vx_laload (z := 4) (q := 54) (by decide +kernel) (vx_Tk hT (by decide +kernel)) (vx_Tz hT (by decide +kernel)) (vx_ix k6 (by decide)) ?_
    obtain ⟨k7, H⟩ := H
    refine vx_lastore (z := 3200) (q := 55) (by decide +kernel) (vx_Tk hT (by decide +kernel)) (vx_Tz hT (by decide +kernel)) (vx_ix k7 (by decide)) (fun h8 e8 => ?_)
    have hT8 := vx_TK hT e8
    replace H := H h8 e8 hT8
    refine vx_iinc (n := 2) (m := 1) (x := v2) (q := 58) (lv' := [some (.ref 625), some (.int (vx_i v1)), some (.int (vx_i (v2 + 1)))]) (by decide +kernel) rfl rfl ?_
    refine vx_goto (off := (-27)) (q := 61) (t := 31) (by decide +kernel) ?_
    exact H
-- RuleHouseModel.readClause()Z
theorem vg_55 {d : Nat} {h : ve_H} {P : Int → ve_H → Prop}  (hT : vx_T 625 672 h) (H : (0 ≤ (vx_J h 625 48) ∧ (vx_J h 625 48) < 2) ∧ (((vx_J h 635 (vx_J h 625 48).toNat) ≠ 30 → (0 ≤ (vx_J h 625 48) ∧ (vx_J h 625 48) < 2) ∧ vx_CV d 51 [.ref 625, .int (vx_i ((30 * (vx_J h 625 48)) + (vx_J h 635 (vx_J h 625 48).toNat)))] h (fun h4 => vx_T 625 672 h4 → (0 ≤ (vx_J h4 625 10) ∧ (vx_J h4 625 10) < 602) ∧ vx_CI d 42 [.ref 625, .int (vx_i 1), .int (vx_i 0)] h4 (fun r6 h6 => vx_T 625 672 h6 → ((r6 ≠ 0 → vx_CV d 52 [.ref 625] h6 (fun h8 => vx_T 625 672 h8 → vx_CI d 35 [.ref 625, .int (vx_i 46)] h8 (fun r9 h9 => vx_T 625 672 h9 → ((r9 = 0 → vx_CI d 34 [.ref 625, .int (vx_i 300)] h9 (fun r11 h11 => vx_T 625 672 h11 → ((r11 ≠ 0 → (0 ≤ (vx_J h11 625 48) ∧ (vx_J h11 625 48) < 2) ∧ (((vx_J h11 635 (vx_J h11 625 48).toNat) ≠ 30 → (∀ h15, h15 = vx_sJ h11 625 10 ((vx_J h11 625 10) + 1) → vx_T 625 672 h15 → vx_CI d 46 [.ref 625] h15 (fun r16 h16 => vx_T 625 672 h16 → ((r16 = 0 → P 0 h16) ∧ (r16 ≠ 0 → vx_CI d 36 [.ref 625, .int (vx_i 46)] h16 (fun r18 h18 => vx_T 625 672 h18 → ((r18 ≠ 0 → vx_CV d 49 [.ref 625] h18 (fun h20 => vx_T 625 672 h20 → (0 ≤ (vx_J h20 625 48) ∧ (vx_J h20 625 48) < 2) ∧ (0 ≤ (vx_J h20 625 48) ∧ (vx_J h20 625 48) < 2) ∧ (∀ h23, h23 = vx_sJ h20 635 (vx_J h20 625 48).toNat ((vx_J h20 635 (vx_J h20 625 48).toNat) + 1) → vx_T 625 672 h23 → P 1 h23))) ∧ (r18 = 0 → P 0 h18)))))))) ∧ ((vx_J h11 635 (vx_J h11 625 48).toNat) = 30 → vx_CI d 32 [.ref 625, .int (vx_i (vx_J h4 628 (vx_J h4 625 10).toNat))] h11 (fun r24 h24 => vx_T 625 672 h24 → (r24 = 0 ∨ r24 = 1) ∧ P r24 h24)))) ∧ (r11 = 0 → vx_CI d 33 [.ref 625] h11 (fun r26 h26 => vx_T 625 672 h26 → (r26 = 0 ∨ r26 = 1) ∧ P r26 h26))))) ∧ (r9 ≠ 0 → (((vx_J h9 625 53) = ((-1)) → vx_CI d 53 [.ref 625] h9 (fun r29 h29 => vx_T 625 672 h29 → ((r29 ≠ ((-1)) → P 1 h29) ∧ (r29 = ((-1)) → vx_CV d 54 [.ref 625] h29 (fun h31 => vx_T 625 672 h31 → P 1 h31))))) ∧ ((vx_J h9 625 53) ≠ ((-1)) → vx_CI d 32 [.ref 625, .int (vx_i (vx_J h9 625 53))] h9 (fun r32 h32 => vx_T 625 672 h32 → (r32 = 0 ∨ r32 = 1) ∧ P r32 h32)))))))) ∧ (r6 = 0 → P 0 h6))))) ∧ ((vx_J h 635 (vx_J h 625 48).toNat) = 30 → vx_CV d 51 [.ref 625, .int (vx_i 60)] h (fun h34 => vx_T 625 672 h34 → (0 ≤ (vx_J h34 625 10) ∧ (vx_J h34 625 10) < 602) ∧ vx_CI d 42 [.ref 625, .int (vx_i 1), .int (vx_i 0)] h34 (fun r36 h36 => vx_T 625 672 h36 → ((r36 ≠ 0 → vx_CV d 52 [.ref 625] h36 (fun h38 => vx_T 625 672 h38 → vx_CI d 35 [.ref 625, .int (vx_i 46)] h38 (fun r39 h39 => vx_T 625 672 h39 → ((r39 = 0 → vx_CI d 34 [.ref 625, .int (vx_i 300)] h39 (fun r41 h41 => vx_T 625 672 h41 → ((r41 ≠ 0 → (0 ≤ (vx_J h41 625 48) ∧ (vx_J h41 625 48) < 2) ∧ (((vx_J h41 635 (vx_J h41 625 48).toNat) ≠ 30 → (∀ h45, h45 = vx_sJ h41 625 10 ((vx_J h41 625 10) + 1) → vx_T 625 672 h45 → vx_CI d 46 [.ref 625] h45 (fun r46 h46 => vx_T 625 672 h46 → ((r46 = 0 → P 0 h46) ∧ (r46 ≠ 0 → vx_CI d 36 [.ref 625, .int (vx_i 46)] h46 (fun r48 h48 => vx_T 625 672 h48 → ((r48 ≠ 0 → vx_CV d 49 [.ref 625] h48 (fun h50 => vx_T 625 672 h50 → (0 ≤ (vx_J h50 625 48) ∧ (vx_J h50 625 48) < 2) ∧ (0 ≤ (vx_J h50 625 48) ∧ (vx_J h50 625 48) < 2) ∧ (∀ h53, h53 = vx_sJ h50 635 (vx_J h50 625 48).toNat ((vx_J h50 635 (vx_J h50 625 48).toNat) + 1) → vx_T 625 672 h53 → P 1 h53))) ∧ (r48 = 0 → P 0 h48)))))))) ∧ ((vx_J h41 635 (vx_J h41 625 48).toNat) = 30 → vx_CI d 32 [.ref 625, .int (vx_i (vx_J h34 628 (vx_J h34 625 10).toNat))] h41 (fun r54 h54 => vx_T 625 672 h54 → (r54 = 0 ∨ r54 = 1) ∧ P r54 h54)))) ∧ (r41 = 0 → vx_CI d 33 [.ref 625] h41 (fun r56 h56 => vx_T 625 672 h56 → (r56 = 0 ∨ r56 = 1) ∧ P r56 h56))))) ∧ (r39 ≠ 0 → (((vx_J h39 625 53) = ((-1)) → vx_CI d 53 [.ref 625] h39 (fun r59 h59 => vx_T 625 672 h59 → ((r59 ≠ ((-1)) → P 1 h59) ∧ (r59 = ((-1)) → vx_CV d 54 [.ref 625] h59 (fun h61 => vx_T 625 672 h61 → P 1 h61))))) ∧ ((vx_J h39 625 53) ≠ ((-1)) → vx_CI d 32 [.ref 625, .int (vx_i (vx_J h39 625 53))] h39 (fun r62 h62 => vx_T 625 672 h62 → (r62 = 0 ∨ r62 = 1) ∧ P r62 h62)))))))) ∧ (r36 = 0 → P 0 h36))))))) : vx_CI (d + 1) 55 [.ref 625] h P := by
  refine vx_enter (ml := 2) (by decide +kernel) ?_
  show vx_W _ _ 0 [some (.ref 625), none] [] h _
  refine vx_aload_n (n := 0) (q := 1) (by decide +kernel) rfl ?_
  refine vx_aload_n (n := 0) (q := 2) (by decide +kernel) rfl ?_
  refine vx_getR (b := 635) (idx := 38) (kd := 9) (s := 16) (fin := true) (q := 5) (by decide +kernel) (vx_Tk hT (by decide +kernel)) (vx_Tr hT (kd := 9) (by decide +kernel) (by decide +kernel) (by decide +kernel)) ?_
  refine vx_aload_n (n := 0) (q := 6) (by decide +kernel) rfl ?_
  refine vx_getI (idx := 238) (kd := 9) (s := 48) (fin := false) (q := 9) (by decide +kernel) (vx_Tk hT (by decide +kernel)) ?_
  obtain ⟨k1, H⟩ := H
  refine vx_iaload (z := 2) (q := 10) (by decide +kernel) (vx_Tk hT (by decide +kernel)) (vx_Tz hT (by decide +kernel)) (vx_ix k1 (by decide)) ?_
  refine vx_bipush (n := 30) (q := 12) (by decide +kernel) ?_
  refine vx_icmp_ne (off := 8) (q := 15) (t := 20) (by decide +kernel) (vx_rI_J h 635 (vx_J h 625 48).toNat) (by decide) (fun c2 => ?_) (fun c2 => ?_)
  · replace H := H.1 c2
    refine vx_bipush (n := 30) (q := 22) (by decide +kernel) ?_
    refine vx_aload_n (n := 0) (q := 23) (by decide +kernel) rfl ?_
    refine vx_getI (idx := 238) (kd := 9) (s := 48) (fin := false) (q := 26) (by decide +kernel) (vx_Tk hT (by decide +kernel)) ?_
    refine vx_imul (q := 27) (by decide +kernel) ?_
    refine vx_aload_n (n := 0) (q := 28) (by decide +kernel) rfl ?_
    refine vx_getR (b := 635) (idx := 38) (kd := 9) (s := 16) (fin := true) (q := 31) (by decide +kernel) (vx_Tk hT (by decide +kernel)) (vx_Tr hT (kd := 9) (by decide +kernel) (by decide +kernel) (by decide +kernel)) ?_
    refine vx_aload_n (n := 0) (q := 32) (by decide +kernel) rfl ?_
    refine vx_getI (idx := 238) (kd := 9) (s := 48) (fin := false) (q := 35) (by decide +kernel) (vx_Tk hT (by decide +kernel)) ?_
    obtain ⟨k3, H⟩ := H
    refine vx_iaload (z := 2) (q := 36) (by decide +kernel) (vx_Tk hT (by decide +kernel)) (vx_Tz hT (by decide +kernel)) (vx_ix k3 (by decide)) ?_
    refine vx_iadd (q := 37) (by decide +kernel) ?_
    refine vx_callV (i := .invokevirtual 308) (how := 3) (cm := 51) (np := 2) (q := 40) (args := [.ref 625, .int (vx_i ((30 * (vx_J h 625 48)) + (vx_J h 635 (vx_J h 625 48).toNat)))]) (rest := []) (by decide +kernel) rfl rfl rfl (vx_w2 (w := 2) (ml := 2) rfl (by decide +kernel)) (vx_rcv (kd := 9) (vx_Tk hT (by decide +kernel)) (by decide +kernel)) H (fun h4 hs4 H => ?_)
    have hT4 := vx_Tsh hT hs4
    replace H := H hT4
    refine vx_aload_n (n := 0) (q := 41) (by decide +kernel) rfl ?_
    refine vx_getR (b := 628) (idx := 16) (kd := 9) (s := 7) (fin := true) (q := 44) (by decide +kernel) (vx_Tk hT4 (by decide +kernel)) (vx_Tr hT4 (kd := 9) (by decide +kernel) (by decide +kernel) (by decide +kernel)) ?_
    refine vx_aload_n (n := 0) (q := 45) (by decide +kernel) rfl ?_
    refine vx_getI (idx := 207) (kd := 9) (s := 10) (fin := false) (q := 48) (by decide +kernel) (vx_Tk hT4 (by decide +kernel)) ?_
    obtain ⟨k5, H⟩ := H
    refine vx_iaload (z := 602) (q := 49) (by decide +kernel) (vx_Tk hT4 (by decide +kernel)) (vx_Tz hT4 (by decide +kernel)) (vx_ix k5 (by decide)) ?_
    refine vx_istore_n (n := 1) (q := 50) (lv' := [some (.ref 625), some (.int (vx_i (vx_J h4 628 (vx_J h4 625 10).toNat)))]) (by decide +kernel) rfl ?_
    refine vx_aload_n (n := 0) (q := 51) (by decide +kernel) rfl ?_
    refine vx_iconst (n := 1) (q := 52) (by decide +kernel) ?_
    refine vx_iconst (n := 0) (q := 53) (by decide +kernel) ?_
    refine vx_callI (i := .invokevirtual 284) (how := 3) (cm := 42) (np := 3) (q := 56) (args := [.ref 625, .int (vx_i 1), .int (vx_i 0)]) (rest := []) (by decide +kernel) rfl rfl rfl (vx_w2 (w := 3) (ml := 5) rfl (by decide +kernel)) (vx_rcv (kd := 9) (vx_Tk hT4 (by decide +kernel)) (by decide +kernel)) H (fun r6 h6 hr6 hs6 H => ?_)
    have hT6 := vx_Tsh hT4 hs6
    replace H := H hT6
    refine vx_if0_ne (off := 5) (q := 59) (t := 61) (by decide +kernel) hr6 (fun c7 => ?_) (fun c7 => ?_)
    · replace H := H.1 c7
      refine vx_aload_n (n := 0) (q := 62) (by decide +kernel) rfl ?_
      refine vx_callV (i := .invokevirtual 312) (how := 3) (cm := 52) (np := 1) (q := 65) (args := [.ref 625]) (rest := []) (by decide +kernel) rfl rfl rfl (vx_w2 (w := 1) (ml := 2) rfl (by decide +kernel)) (vx_rcv (kd := 9) (vx_Tk hT6 (by decide +kernel)) (by decide +kernel)) H (fun h8 hs8 H => ?_)
      have hT8 := vx_Tsh hT6 hs8
      replace H := H hT8
      refine vx_aload_n (n := 0) (q := 66) (by decide +kernel) rfl ?_
      refine vx_bipush (n := 46) (q := 68) (by decide +kernel) ?_
      refine vx_callI (i := .invokevirtual 216) (how := 3) (cm := 35) (np := 2) (q := 71) (args := [.ref 625, .int (vx_i 46)]) (rest := []) (by decide +kernel) rfl rfl rfl (vx_w2 (w := 2) (ml := 2) rfl (by decide +kernel)) (vx_rcv (kd := 9) (vx_Tk hT8 (by decide +kernel)) (by decide +kernel)) H (fun r9 h9 hr9 hs9 H => ?_)
      have hT9 := vx_Tsh hT8 hs9
      replace H := H hT9
      refine vx_if0_eq (off := 34) (q := 74) (t := 105) (by decide +kernel) hr9 (fun c10 => ?_) (fun c10 => ?_)
      · replace H := H.1 c10
        refine vx_aload_n (n := 0) (q := 106) (by decide +kernel) rfl ?_
        refine vx_sipush (n := 300) (q := 109) (by decide +kernel) ?_
        refine vx_callI (i := .invokevirtual 213) (how := 3) (cm := 34) (np := 2) (q := 112) (args := [.ref 625, .int (vx_i 300)]) (rest := []) (by decide +kernel) rfl rfl rfl (vx_w2 (w := 2) (ml := 2) rfl (by decide +kernel)) (vx_rcv (kd := 9) (vx_Tk hT9 (by decide +kernel)) (by decide +kernel)) H (fun r11 h11 hr11 hs11 H => ?_)
        have hT11 := vx_Tsh hT9 hs11
        replace H := H hT11
        refine vx_if0_ne (off := 8) (q := 115) (t := 120) (by decide +kernel) hr11 (fun c12 => ?_) (fun c12 => ?_)
        · replace H := H.1 c12
          refine vx_aload_n (n := 0) (q := 121) (by decide +kernel) rfl ?_
          refine vx_getR (b := 635) (idx := 38) (kd := 9) (s := 16) (fin := true) (q := 124) (by decide +kernel) (vx_Tk hT11 (by decide +kernel)) (vx_Tr hT11 (kd := 9) (by decide +kernel) (by decide +kernel) (by decide +kernel)) ?_
          refine vx_aload_n (n := 0) (q := 125) (by decide +kernel) rfl ?_
          refine vx_getI (idx := 238) (kd := 9) (s := 48) (fin := false) (q := 128) (by decide +kernel) (vx_Tk hT11 (by decide +kernel)) ?_
          obtain ⟨k13, H⟩ := H
          refine vx_iaload (z := 2) (q := 129) (by decide +kernel) (vx_Tk hT11 (by decide +kernel)) (vx_Tz hT11 (by decide +kernel)) (vx_ix k13 (by decide)) ?_
          refine vx_bipush (n := 30) (q := 131) (by decide +kernel) ?_
          refine vx_icmp_ne (off := 9) (q := 134) (t := 140) (by decide +kernel) (vx_rI_J h11 635 (vx_J h11 625 48).toNat) (by decide) (fun c14 => ?_) (fun c14 => ?_)
          · replace H := H.1 c14
            refine vx_aload_n (n := 0) (q := 141) (by decide +kernel) rfl ?_
            refine vx_dupR (q := 142) (by decide +kernel) ?_
            refine vx_getI (idx := 207) (kd := 9) (s := 10) (fin := false) (q := 145) (by decide +kernel) (vx_Tk hT11 (by decide +kernel)) ?_
            refine vx_iconst (n := 1) (q := 146) (by decide +kernel) ?_
            refine vx_iadd (q := 147) (by decide +kernel) ?_
            refine vx_putI (idx := 207) (kd := 9) (s := 10) (fin := false) (q := 150) (by decide +kernel) (vx_Tk hT11 (by decide +kernel)) (fun h15 e15 => ?_)
            have hT15 := vx_TJ hT11 e15
            replace H := H h15 e15 hT15
            refine vx_aload_n (n := 0) (q := 151) (by decide +kernel) rfl ?_
            refine vx_callI (i := .invokevirtual 321) (how := 3) (cm := 46) (np := 1) (q := 154) (args := [.ref 625]) (rest := []) (by decide +kernel) rfl rfl rfl (vx_w2 (w := 1) (ml := 1) rfl (by decide +kernel)) (vx_rcv (kd := 9) (vx_Tk hT15 (by decide +kernel)) (by decide +kernel)) H (fun r16 h16 hr16 hs16 H => ?_)
            have hT16 := vx_Tsh hT15 hs16
            replace H := H hT16
            refine vx_if0_eq (off := 12) (q := 157) (t := 166) (by decide +kernel) hr16 (fun c17 => ?_) (fun c17 => ?_)
            · replace H := H.1 c17
              refine vx_iconst (n := 0) (q := 167) (by decide +kernel) ?_
              refine vx_retZ (q := 168) (by decide +kernel) (Or.inl rfl) ?_
              exact H
            · replace H := H.2 c17
              refine vx_aload_n (n := 0) (q := 158) (by decide +kernel) rfl ?_
              refine vx_bipush (n := 46) (q := 160) (by decide +kernel) ?_
              refine vx_callI (i := .invokevirtual 256) (how := 3) (cm := 36) (np := 2) (q := 163) (args := [.ref 625, .int (vx_i 46)]) (rest := []) (by decide +kernel) rfl rfl rfl (vx_w2 (w := 2) (ml := 2) rfl (by decide +kernel)) (vx_rcv (kd := 9) (vx_Tk hT16 (by decide +kernel)) (by decide +kernel)) H (fun r18 h18 hr18 hs18 H => ?_)
              have hT18 := vx_Tsh hT16 hs18
              replace H := H hT18
              refine vx_if0_ne (off := 5) (q := 166) (t := 168) (by decide +kernel) hr18 (fun c19 => ?_) (fun c19 => ?_)
              · replace H := H.1 c19
                refine vx_aload_n (n := 0) (q := 169) (by decide +kernel) rfl ?_
                refine vx_callV (i := .invokevirtual 324) (how := 3) (cm := 49) (np := 1) (q := 172) (args := [.ref 625]) (rest := []) (by decide +kernel) rfl rfl rfl (vx_w2 (w := 1) (ml := 5) rfl (by decide +kernel)) (vx_rcv (kd := 9) (vx_Tk hT18 (by decide +kernel)) (by decide +kernel)) H (fun h20 hs20 H => ?_)
                have hT20 := vx_Tsh hT18 hs20
                replace H := H hT20
                refine vx_aload_n (n := 0) (q := 173) (by decide +kernel) rfl ?_
                refine vx_getR (b := 635) (idx := 38) (kd := 9) (s := 16) (fin := true) (q := 176) (by decide +kernel) (vx_Tk hT20 (by decide +kernel)) (vx_Tr hT20 (kd := 9) (by decide +kernel) (by decide +kernel) (by decide +kernel)) ?_
                refine vx_aload_n (n := 0) (q := 177) (by decide +kernel) rfl ?_
                refine vx_getI (idx := 238) (kd := 9) (s := 48) (fin := false) (q := 180) (by decide +kernel) (vx_Tk hT20 (by decide +kernel)) ?_
                refine vx_dup2I (q := 181) (by decide +kernel) ?_
                obtain ⟨k21, H⟩ := H
                refine vx_iaload (z := 2) (q := 182) (by decide +kernel) (vx_Tk hT20 (by decide +kernel)) (vx_Tz hT20 (by decide +kernel)) (vx_ix k21 (by decide)) ?_
                refine vx_iconst (n := 1) (q := 183) (by decide +kernel) ?_
                refine vx_iadd (q := 184) (by decide +kernel) ?_
                obtain ⟨k22, H⟩ := H
                refine vx_iastore (z := 2) (q := 185) (by decide +kernel) (vx_Tk hT20 (by decide +kernel)) (vx_Tz hT20 (by decide +kernel)) (vx_ix k22 (by decide)) (fun h23 e23 => ?_)
                have hT23 := vx_TJ hT20 e23
                replace H := H h23 e23 hT23
                refine vx_iconst (n := 1) (q := 186) (by decide +kernel) ?_
                refine vx_retZ (q := 187) (by decide +kernel) (Or.inr rfl) ?_
                exact H
              · replace H := H.2 c19
                refine vx_iconst (n := 0) (q := 167) (by decide +kernel) ?_
                refine vx_retZ (q := 168) (by decide +kernel) (Or.inl rfl) ?_
                exact H
          · replace H := H.2 c14
            refine vx_aload_n (n := 0) (q := 135) (by decide +kernel) rfl ?_
            refine vx_iload_n (n := 1) (q := 136) (by decide +kernel) rfl ?_
            refine vx_callI (i := .invokevirtual 210) (how := 3) (cm := 32) (np := 2) (q := 139) (args := [.ref 625, .int (vx_i (vx_J h4 628 (vx_J h4 625 10).toNat))]) (rest := []) (by decide +kernel) rfl rfl rfl (vx_w2 (w := 2) (ml := 2) rfl (by decide +kernel)) (vx_rcv (kd := 9) (vx_Tk hT11 (by decide +kernel)) (by decide +kernel)) H (fun r24 h24 hr24 hs24 H => ?_)
            have hT24 := vx_Tsh hT11 hs24
            replace H := H hT24
            obtain ⟨k25, H⟩ := H
            refine vx_retZ (q := 140) (by decide +kernel) k25 ?_
            exact H
        · replace H := H.2 c12
          refine vx_aload_n (n := 0) (q := 116) (by decide +kernel) rfl ?_
          refine vx_callI (i := .invokevirtual 219) (how := 3) (cm := 33) (np := 1) (q := 119) (args := [.ref 625]) (rest := []) (by decide +kernel) rfl rfl rfl (vx_w2 (w := 1) (ml := 1) rfl (by decide +kernel)) (vx_rcv (kd := 9) (vx_Tk hT11 (by decide +kernel)) (by decide +kernel)) H (fun r26 h26 hr26 hs26 H => ?_)
          have hT26 := vx_Tsh hT11 hs26
          replace H := H hT26
          obtain ⟨k27, H⟩ := H
          refine vx_retZ (q := 120) (by decide +kernel) k27 ?_
          exact H
      · replace H := H.2 c10
        refine vx_aload_n (n := 0) (q := 75) (by decide +kernel) rfl ?_
        refine vx_getI (idx := 268) (kd := 9) (s := 53) (fin := false) (q := 78) (by decide +kernel) (vx_Tk hT9 (by decide +kernel)) ?_
        refine vx_iconst (n := (-1)) (q := 79) (by decide +kernel) ?_
        refine vx_icmp_eq (off := 12) (q := 82) (t := 91) (by decide +kernel) (vx_rI_J h9 625 53) (by decide) (fun c28 => ?_) (fun c28 => ?_)
        · replace H := H.1 c28
          refine vx_aload_n (n := 0) (q := 92) (by decide +kernel) rfl ?_
          refine vx_callI (i := .invokevirtual 315) (how := 3) (cm := 53) (np := 1) (q := 95) (args := [.ref 625]) (rest := []) (by decide +kernel) rfl rfl rfl (vx_w2 (w := 1) (ml := 4) rfl (by decide +kernel)) (vx_rcv (kd := 9) (vx_Tk hT9 (by decide +kernel)) (by decide +kernel)) H (fun r29 h29 hr29 hs29 H => ?_)
          have hT29 := vx_Tsh hT9 hs29
          replace H := H hT29
          refine vx_iconst (n := (-1)) (q := 96) (by decide +kernel) ?_
          refine vx_icmp_ne (off := 7) (q := 99) (t := 103) (by decide +kernel) hr29 (by decide) (fun c30 => ?_) (fun c30 => ?_)
          · replace H := H.1 c30
            refine vx_iconst (n := 1) (q := 104) (by decide +kernel) ?_
            refine vx_retZ (q := 105) (by decide +kernel) (Or.inr rfl) ?_
            exact H
          · replace H := H.2 c30
            refine vx_aload_n (n := 0) (q := 100) (by decide +kernel) rfl ?_
            refine vx_callV (i := .invokevirtual 318) (how := 3) (cm := 54) (np := 1) (q := 103) (args := [.ref 625]) (rest := []) (by decide +kernel) rfl rfl rfl (vx_w2 (w := 1) (ml := 3) rfl (by decide +kernel)) (vx_rcv (kd := 9) (vx_Tk hT29 (by decide +kernel)) (by decide +kernel)) H (fun h31 hs31 H => ?_)
            have hT31 := vx_Tsh hT29 hs31
            replace H := H hT31
            refine vx_iconst (n := 1) (q := 104) (by decide +kernel) ?_
            refine vx_retZ (q := 105) (by decide +kernel) (Or.inr rfl) ?_
            exact H
        · replace H := H.2 c28
          refine vx_aload_n (n := 0) (q := 83) (by decide +kernel) rfl ?_
          refine vx_aload_n (n := 0) (q := 84) (by decide +kernel) rfl ?_
          refine vx_getI (idx := 268) (kd := 9) (s := 53) (fin := false) (q := 87) (by decide +kernel) (vx_Tk hT9 (by decide +kernel)) ?_
          refine vx_callI (i := .invokevirtual 210) (how := 3) (cm := 32) (np := 2) (q := 90) (args := [.ref 625, .int (vx_i (vx_J h9 625 53))]) (rest := []) (by decide +kernel) rfl rfl rfl (vx_w2 (w := 2) (ml := 2) rfl (by decide +kernel)) (vx_rcv (kd := 9) (vx_Tk hT9 (by decide +kernel)) (by decide +kernel)) H (fun r32 h32 hr32 hs32 H => ?_)
          have hT32 := vx_Tsh hT9 hs32
          replace H := H hT32
          obtain ⟨k33, H⟩ := H
          refine vx_retZ (q := 91) (by decide +kernel) k33 ?_
          exact H
    · replace H := H.2 c7
      refine vx_iconst (n := 0) (q := 60) (by decide +kernel) ?_
      refine vx_retZ (q := 61) (by decide +kernel) (Or.inl rfl) ?_
      exact H
  · replace H := H.2 c2
    refine vx_bipush (n := 60) (q := 17) (by decide +kernel) ?_
    refine vx_goto (off := 20) (q := 20) (t := 37) (by decide +kernel) ?_
    refine vx_callV (i := .invokevirtual 308) (how := 3) (cm := 51) (np := 2) (q := 40) (args := [.ref 625, .int (vx_i 60)]) (rest := []) (by decide +kernel) rfl rfl rfl (vx_w2 (w := 2) (ml := 2) rfl (by decide +kernel)) (vx_rcv (kd := 9) (vx_Tk hT (by decide +kernel)) (by decide +kernel)) H (fun h34 hs34 H => ?_)
    have hT34 := vx_Tsh hT hs34
    replace H := H hT34
    refine vx_aload_n (n := 0) (q := 41) (by decide +kernel) rfl ?_
    refine vx_getR (b := 628) (idx := 16) (kd := 9) (s := 7) (fin := true) (q := 44) (by decide +kernel) (vx_Tk hT34 (by decide +kernel)) (vx_Tr hT34 (kd := 9) (by decide +kernel) (by decide +kernel) (by decide +kernel)) ?_
    refine vx_aload_n (n := 0) (q := 45) (by decide +kernel) rfl ?_
    refine vx_getI (idx := 207) (kd := 9) (s := 10) (fin := false) (q := 48) (by decide +kernel) (vx_Tk hT34 (by decide +kernel)) ?_
    obtain ⟨k35, H⟩ := H
    refine vx_iaload (z := 602) (q := 49) (by decide +kernel) (vx_Tk hT34 (by decide +kernel)) (vx_Tz hT34 (by decide +kernel)) (vx_ix k35 (by decide)) ?_
    refine vx_istore_n (n := 1) (q := 50) (lv' := [some (.ref 625), some (.int (vx_i (vx_J h34 628 (vx_J h34 625 10).toNat)))]) (by decide +kernel) rfl ?_
    refine vx_aload_n (n := 0) (q := 51) (by decide +kernel) rfl ?_
    refine vx_iconst (n := 1) (q := 52) (by decide +kernel) ?_
    refine vx_iconst (n := 0) (q := 53) (by decide +kernel) ?_
    refine vx_callI (i := .invokevirtual 284) (how := 3) (cm := 42) (np := 3) (q := 56) (args := [.ref 625, .int (vx_i 1), .int (vx_i 0)]) (rest := []) (by decide +kernel) rfl rfl rfl (vx_w2 (w := 3) (ml := 5) rfl (by decide +kernel)) (vx_rcv (kd := 9) (vx_Tk hT34 (by decide +kernel)) (by decide +kernel)) H (fun r36 h36 hr36 hs36 H => ?_)
    have hT36 := vx_Tsh hT34 hs36
    replace H := H hT36
    refine vx_if0_ne (off := 5) (q := 59) (t := 61) (by decide +kernel) hr36 (fun c37 => ?_) (fun c37 => ?_)
    · replace H := H.1 c37
      refine vx_aload_n (n := 0) (q := 62) (by decide +kernel) rfl ?_
      refine vx_callV (i := .invokevirtual 312) (how := 3) (cm := 52) (np := 1) (q := 65) (args := [.ref 625]) (rest := []) (by decide +kernel) rfl rfl rfl (vx_w2 (w := 1) (ml := 2) rfl (by decide +kernel)) (vx_rcv (kd := 9) (vx_Tk hT36 (by decide +kernel)) (by decide +kernel)) H (fun h38 hs38 H => ?_)
      have hT38 := vx_Tsh hT36 hs38
      replace H := H hT38
      refine vx_aload_n (n := 0) (q := 66) (by decide +kernel) rfl ?_
      refine vx_bipush (n := 46) (q := 68) (by decide +kernel) ?_
      refine vx_callI (i := .invokevirtual 216) (how := 3) (cm := 35) (np := 2) (q := 71) (args := [.ref 625, .int (vx_i 46)]) (rest := []) (by decide +kernel) rfl rfl rfl (vx_w2 (w := 2) (ml := 2) rfl (by decide +kernel)) (vx_rcv (kd := 9) (vx_Tk hT38 (by decide +kernel)) (by decide +kernel)) H (fun r39 h39 hr39 hs39 H => ?_)
      have hT39 := vx_Tsh hT38 hs39
      replace H := H hT39
      refine vx_if0_eq (off := 34) (q := 74) (t := 105) (by decide +kernel) hr39 (fun c40 => ?_) (fun c40 => ?_)
      · replace H := H.1 c40
        refine vx_aload_n (n := 0) (q := 106) (by decide +kernel) rfl ?_
        refine vx_sipush (n := 300) (q := 109) (by decide +kernel) ?_
        refine vx_callI (i := .invokevirtual 213) (how := 3) (cm := 34) (np := 2) (q := 112) (args := [.ref 625, .int (vx_i 300)]) (rest := []) (by decide +kernel) rfl rfl rfl (vx_w2 (w := 2) (ml := 2) rfl (by decide +kernel)) (vx_rcv (kd := 9) (vx_Tk hT39 (by decide +kernel)) (by decide +kernel)) H (fun r41 h41 hr41 hs41 H => ?_)
        have hT41 := vx_Tsh hT39 hs41
        replace H := H hT41
        refine vx_if0_ne (off := 8) (q := 115) (t := 120) (by decide +kernel) hr41 (fun c42 => ?_) (fun c42 => ?_)
        · replace H := H.1 c42
          refine vx_aload_n (n := 0) (q := 121) (by decide +kernel) rfl ?_
          refine vx_getR (b := 635) (idx := 38) (kd := 9) (s := 16) (fin := true) (q := 124) (by decide +kernel) (vx_Tk hT41 (by decide +kernel)) (vx_Tr hT41 (kd := 9) (by decide +kernel) (by decide +kernel) (by decide +kernel)) ?_
          refine vx_aload_n (n := 0) (q := 125) (by decide +kernel) rfl ?_
          refine vx_getI (idx := 238) (kd := 9) (s := 48) (fin := false) (q := 128) (by decide +kernel) (vx_Tk hT41 (by decide +kernel)) ?_
          obtain ⟨k43, H⟩ := H
          refine vx_iaload (z := 2) (q := 129) (by decide +kernel) (vx_Tk hT41 (by decide +kernel)) (vx_Tz hT41 (by decide +kernel)) (vx_ix k43 (by decide)) ?_
          refine vx_bipush (n := 30) (q := 131) (by decide +kernel) ?_
          refine vx_icmp_ne (off := 9) (q := 134) (t := 140) (by decide +kernel) (vx_rI_J h41 635 (vx_J h41 625 48).toNat) (by decide) (fun c44 => ?_) (fun c44 => ?_)
          · replace H := H.1 c44
            refine vx_aload_n (n := 0) (q := 141) (by decide +kernel) rfl ?_
            refine vx_dupR (q := 142) (by decide +kernel) ?_
            refine vx_getI (idx := 207) (kd := 9) (s := 10) (fin := false) (q := 145) (by decide +kernel) (vx_Tk hT41 (by decide +kernel)) ?_
            refine vx_iconst (n := 1) (q := 146) (by decide +kernel) ?_
            refine vx_iadd (q := 147) (by decide +kernel) ?_
            refine vx_putI (idx := 207) (kd := 9) (s := 10) (fin := false) (q := 150) (by decide +kernel) (vx_Tk hT41 (by decide +kernel)) (fun h45 e45 => ?_)
            have hT45 := vx_TJ hT41 e45
            replace H := H h45 e45 hT45
            refine vx_aload_n (n := 0) (q := 151) (by decide +kernel) rfl ?_
            refine vx_callI (i := .invokevirtual 321) (how := 3) (cm := 46) (np := 1) (q := 154) (args := [.ref 625]) (rest := []) (by decide +kernel) rfl rfl rfl (vx_w2 (w := 1) (ml := 1) rfl (by decide +kernel)) (vx_rcv (kd := 9) (vx_Tk hT45 (by decide +kernel)) (by decide +kernel)) H (fun r46 h46 hr46 hs46 H => ?_)
            have hT46 := vx_Tsh hT45 hs46
            replace H := H hT46
            refine vx_if0_eq (off := 12) (q := 157) (t := 166) (by decide +kernel) hr46 (fun c47 => ?_) (fun c47 => ?_)
            · replace H := H.1 c47
              refine vx_iconst (n := 0) (q := 167) (by decide +kernel) ?_
              refine vx_retZ (q := 168) (by decide +kernel) (Or.inl rfl) ?_
              exact H
            · replace H := H.2 c47
              refine vx_aload_n (n := 0) (q := 158) (by decide +kernel) rfl ?_
              refine vx_bipush (n := 46) (q := 160) (by decide +kernel) ?_
              refine vx_callI (i := .invokevirtual 256) (how := 3) (cm := 36) (np := 2) (q := 163) (args := [.ref 625, .int (vx_i 46)]) (rest := []) (by decide +kernel) rfl rfl rfl (vx_w2 (w := 2) (ml := 2) rfl (by decide +kernel)) (vx_rcv (kd := 9) (vx_Tk hT46 (by decide +kernel)) (by decide +kernel)) H (fun r48 h48 hr48 hs48 H => ?_)
              have hT48 := vx_Tsh hT46 hs48
              replace H := H hT48
              refine vx_if0_ne (off := 5) (q := 166) (t := 168) (by decide +kernel) hr48 (fun c49 => ?_) (fun c49 => ?_)
              · replace H := H.1 c49
                refine vx_aload_n (n := 0) (q := 169) (by decide +kernel) rfl ?_
                refine vx_callV (i := .invokevirtual 324) (how := 3) (cm := 49) (np := 1) (q := 172) (args := [.ref 625]) (rest := []) (by decide +kernel) rfl rfl rfl (vx_w2 (w := 1) (ml := 5) rfl (by decide +kernel)) (vx_rcv (kd := 9) (vx_Tk hT48 (by decide +kernel)) (by decide +kernel)) H (fun h50 hs50 H => ?_)
                have hT50 := vx_Tsh hT48 hs50
                replace H := H hT50
                refine vx_aload_n (n := 0) (q := 173) (by decide +kernel) rfl ?_
                refine vx_getR (b := 635) (idx := 38) (kd := 9) (s := 16) (fin := true) (q := 176) (by decide +kernel) (vx_Tk hT50 (by decide +kernel)) (vx_Tr hT50 (kd := 9) (by decide +kernel) (by decide +kernel) (by decide +kernel)) ?_
                refine vx_aload_n (n := 0) (q := 177) (by decide +kernel) rfl ?_
                refine vx_getI (idx := 238) (kd := 9) (s := 48) (fin := false) (q := 180) (by decide +kernel) (vx_Tk hT50 (by decide +kernel)) ?_
                refine vx_dup2I (q := 181) (by decide +kernel) ?_
                obtain ⟨k51, H⟩ := H
                refine vx_iaload (z := 2) (q := 182) (by decide +kernel) (vx_Tk hT50 (by decide +kernel)) (vx_Tz hT50 (by decide +kernel)) (vx_ix k51 (by decide)) ?_
                refine vx_iconst (n := 1) (q := 183) (by decide +kernel) ?_
                refine vx_iadd (q := 184) (by decide +kernel) ?_
                obtain ⟨k52, H⟩ := H
                refine vx_iastore (z := 2) (q := 185) (by decide +kernel) (vx_Tk hT50 (by decide +kernel)) (vx_Tz hT50 (by decide +kernel)) (vx_ix k52 (by decide)) (fun h53 e53 => ?_)
                have hT53 := vx_TJ hT50 e53
                replace H := H h53 e53 hT53
                refine vx_iconst (n := 1) (q := 186) (by decide +kernel) ?_
                refine vx_retZ (q := 187) (by decide +kernel) (Or.inr rfl) ?_
                exact H
              · replace H := H.2 c49
                refine vx_iconst (n := 0) (q := 167) (by decide +kernel) ?_
                refine vx_retZ (q := 168) (by decide +kernel) (Or.inl rfl) ?_
                exact H
          · replace H := H.2 c44
            refine vx_aload_n (n := 0) (q := 135) (by decide +kernel) rfl ?_
            refine vx_iload_n (n := 1) (q := 136) (by decide +kernel) rfl ?_
            refine vx_callI (i := .invokevirtual 210) (how := 3) (cm := 32) (np := 2) (q := 139) (args := [.ref 625, .int (vx_i (vx_J h34 628 (vx_J h34 625 10).toNat))]) (rest := []) (by decide +kernel) rfl rfl rfl (vx_w2 (w := 2) (ml := 2) rfl (by decide +kernel)) (vx_rcv (kd := 9) (vx_Tk hT41 (by decide +kernel)) (by decide +kernel)) H (fun r54 h54 hr54 hs54 H => ?_)
            have hT54 := vx_Tsh hT41 hs54
            replace H := H hT54
            obtain ⟨k55, H⟩ := H
            refine vx_retZ (q := 140) (by decide +kernel) k55 ?_
            exact H
        · replace H := H.2 c42
          refine vx_aload_n (n := 0) (q := 116) (by decide +kernel) rfl ?_
          refine vx_callI (i := .invokevirtual 219) (how := 3) (cm := 33) (np := 1) (q := 119) (args := [.ref 625]) (rest := []) (by decide +kernel) rfl rfl rfl (vx_w2 (w := 1) (ml := 1) rfl (by decide +kernel)) (vx_rcv (kd := 9) (vx_Tk hT41 (by decide +kernel)) (by decide +kernel)) H (fun r56 h56 hr56 hs56 H => ?_)
          have hT56 := vx_Tsh hT41 hs56
          replace H := H hT56
          obtain ⟨k57, H⟩ := H
          refine vx_retZ (q := 120) (by decide +kernel) k57 ?_
          exact H
      · replace H := H.2 c40
        refine vx_aload_n (n := 0) (q := 75) (by decide +kernel) rfl ?_
        refine vx_getI (idx := 268) (kd := 9) (s := 53) (fin := false) (q := 78) (by decide +kernel) (vx_Tk hT39 (by decide +kernel)) ?_
        refine vx_iconst (n := (-1)) (q := 79) (by decide +kernel) ?_
        refine vx_icmp_eq (off := 12) (q := 82) (t := 91) (by decide +kernel) (vx_rI_J h39 625 53) (by decide) (fun c58 => ?_) (fun c58 => ?_)
        · replace H := H.1 c58
          refine vx_aload_n (n := 0) (q := 92) (by decide +kernel) rfl ?_
          refine vx_callI (i := .invokevirtual 315) (how := 3) (cm := 53) (np := 1) (q := 95) (args := [.ref 625]) (rest := []) (by decide +kernel) rfl rfl rfl (vx_w2 (w := 1) (ml := 4) rfl (by decide +kernel)) (vx_rcv (kd := 9) (vx_Tk hT39 (by decide +kernel)) (by decide +kernel)) H (fun r59 h59 hr59 hs59 H => ?_)
          have hT59 := vx_Tsh hT39 hs59
          replace H := H hT59
          refine vx_iconst (n := (-1)) (q := 96) (by decide +kernel) ?_
          refine vx_icmp_ne (off := 7) (q := 99) (t := 103) (by decide +kernel) hr59 (by decide) (fun c60 => ?_) (fun c60 => ?_)
          · replace H := H.1 c60
            refine vx_iconst (n := 1) (q := 104) (by decide +kernel) ?_
            refine vx_retZ (q := 105) (by decide +kernel) (Or.inr rfl) ?_
            exact H
          · replace H := H.2 c60
            refine vx_aload_n (n := 0) (q := 100) (by decide +kernel) rfl ?_
            refine vx_callV (i := .invokevirtual 318) (how := 3) (cm := 54) (np := 1) (q := 103) (args := [.ref 625]) (rest := []) (by decide +kernel) rfl rfl rfl (vx_w2 (w := 1) (ml := 3) rfl (by decide +kernel)) (vx_rcv (kd := 9) (vx_Tk hT59 (by decide +kernel)) (by decide +kernel)) H (fun h61 hs61 H => ?_)
            have hT61 := vx_Tsh hT59 hs61
            replace H := H hT61
            refine vx_iconst (n := 1) (q := 104) (by decide +kernel) ?_
            refine vx_retZ (q := 105) (by decide +kernel) (Or.inr rfl) ?_
            exact H
        · replace H := H.2 c58
          refine vx_aload_n (n := 0) (q := 83) (by decide +kernel) rfl ?_
          refine vx_aload_n (n := 0) (q := 84) (by decide +kernel) rfl ?_
          refine vx_getI (idx := 268) (kd := 9) (s := 53) (fin := false) (q := 87) (by decide +kernel) (vx_Tk hT39 (by decide +kernel)) ?_
          refine vx_callI (i := .invokevirtual 210) (how := 3) (cm := 32) (np := 2) (q := 90) (args := [.ref 625, .int (vx_i (vx_J h39 625 53))]) (rest := []) (by decide +kernel) rfl rfl rfl (vx_w2 (w := 2) (ml := 2) rfl (by decide +kernel)) (vx_rcv (kd := 9) (vx_Tk hT39 (by decide +kernel)) (by decide +kernel)) H (fun r62 h62 hr62 hs62 H => ?_)
          have hT62 := vx_Tsh hT39 hs62
          replace H := H hT62
          obtain ⟨k63, H⟩ := H
          refine vx_retZ (q := 91) (by decide +kernel) k63 ?_
          exact H
    · replace H := H.2 c37
      refine vx_iconst (n := 0) (q := 60) (by decide +kernel) ?_
      refine vx_retZ (q := 61) (by decide +kernel) (Or.inl rfl) ?_
      exact H
-- RuleHouseModel.isAtom(I)Z
theorem vg_56 {d : Nat} {h : ve_H} {P : Int → ve_H → Prop} {x1 : Int} (hT : vx_T 625 672 h) (H : (0 ≤ x1 ∧ x1 < 366) ∧ (((vx_J h 643 x1.toNat) = 0 → P 1 h) ∧ ((vx_J h 643 x1.toNat) ≠ 0 → (0 ≤ x1 ∧ x1 < 366) ∧ (((vx_J h 643 x1.toNat) ≠ 1 → P 0 h) ∧ ((vx_J h 643 x1.toNat) = 1 → P 1 h))))) : vx_CI d 56 [.ref 625, .int (vx_i x1)] h P := by
  refine vx_enter (ml := 2) (by decide +kernel) ?_
  show vx_W _ _ 0 [some (.ref 625), some (.int (vx_i x1))] [] h _
  refine vx_aload_n (n := 0) (q := 1) (by decide +kernel) rfl ?_
  refine vx_getR (b := 643) (idx := 62) (kd := 9) (s := 24) (fin := true) (q := 4) (by decide +kernel) (vx_Tk hT (by decide +kernel)) (vx_Tr hT (kd := 9) (by decide +kernel) (by decide +kernel) (by decide +kernel)) ?_
  refine vx_iload_n (n := 1) (q := 5) (by decide +kernel) rfl ?_
  obtain ⟨k1, H⟩ := H
  refine vx_iaload (z := 366) (q := 6) (by decide +kernel) (vx_Tk hT (by decide +kernel)) (vx_Tz hT (by decide +kernel)) (vx_ix k1 (by decide)) ?_
  refine vx_if0_eq (off := 13) (q := 9) (t := 19) (by decide +kernel) (vx_rI_J h 643 x1.toNat) (fun c2 => ?_) (fun c2 => ?_)
  · replace H := H.1 c2
    refine vx_iconst (n := 1) (q := 20) (by decide +kernel) ?_
    refine vx_goto (off := 4) (q := 23) (t := 24) (by decide +kernel) ?_
    refine vx_retZ (q := 25) (by decide +kernel) (Or.inr rfl) ?_
    exact H
  · replace H := H.2 c2
    refine vx_aload_n (n := 0) (q := 10) (by decide +kernel) rfl ?_
    refine vx_getR (b := 643) (idx := 62) (kd := 9) (s := 24) (fin := true) (q := 13) (by decide +kernel) (vx_Tk hT (by decide +kernel)) (vx_Tr hT (kd := 9) (by decide +kernel) (by decide +kernel) (by decide +kernel)) ?_
    refine vx_iload_n (n := 1) (q := 14) (by decide +kernel) rfl ?_
    obtain ⟨k3, H⟩ := H
    refine vx_iaload (z := 366) (q := 15) (by decide +kernel) (vx_Tk hT (by decide +kernel)) (vx_Tz hT (by decide +kernel)) (vx_ix k3 (by decide)) ?_
    refine vx_iconst (n := 1) (q := 16) (by decide +kernel) ?_
    refine vx_icmp_ne (off := 7) (q := 19) (t := 23) (by decide +kernel) (vx_rI_J h 643 x1.toNat) (by decide) (fun c4 => ?_) (fun c4 => ?_)
    · replace H := H.1 c4
      refine vx_iconst (n := 0) (q := 24) (by decide +kernel) ?_
      refine vx_retZ (q := 25) (by decide +kernel) (Or.inl rfl) ?_
      exact H
    · replace H := H.2 c4
      refine vx_iconst (n := 1) (q := 20) (by decide +kernel) ?_
      refine vx_goto (off := 4) (q := 23) (t := 24) (by decide +kernel) ?_
      refine vx_retZ (q := 25) (by decide +kernel) (Or.inr rfl) ?_
      exact H
-- RuleHouseModel.isBack(II)Z
theorem vg_58 {d : Nat} {h : ve_H} {P : Int → ve_H → Prop} {x1 : Int} {x2 : Int} (hT : vx_T 625 672 h) (H : (vx_rI x1) ∧ (vx_rI x2) ∧ ((x1 = x2 → P 1 h) ∧ (x1 ≠ x2 → (0 ≤ ((16 * x2) + x1) ∧ ((16 * x2) + x1) < 256) ∧ (((vx_J h 663 ((16 * x2) + x1).toNat) = 0 → P 0 h) ∧ ((vx_J h 663 ((16 * x2) + x1).toNat) ≠ 0 → P 1 h))))) : vx_CI d 58 [.ref 625, .int (vx_i x1), .int (vx_i x2)] h P := by
  refine vx_enter (ml := 3) (by decide +kernel) ?_
  show vx_W _ _ 0 [some (.ref 625), some (.int (vx_i x1)), some (.int (vx_i x2))] [] h _
  refine vx_iload_n (n := 1) (q := 1) (by decide +kernel) rfl ?_
  refine vx_iload_n (n := 2) (q := 2) (by decide +kernel) rfl ?_
  obtain ⟨k1, H⟩ := H
  obtain ⟨k2, H⟩ := H
  refine vx_icmp_eq (off := 17) (q := 5) (t := 19) (by decide +kernel) k1 k2 (fun c3 => ?_) (fun c3 => ?_)
  · replace H := H.1 c3
    refine vx_iconst (n := 1) (q := 20) (by decide +kernel) ?_
    refine vx_goto (off := 4) (q := 23) (t := 24) (by decide +kernel) ?_
    refine vx_retZ (q := 25) (by decide +kernel) (Or.inr rfl) ?_
    exact H
  · replace H := H.2 c3
    refine vx_aload_n (n := 0) (q := 6) (by decide +kernel) rfl ?_
    refine vx_getR (b := 663) (idx := 127) (kd := 9) (s := 62) (fin := true) (q := 9) (by decide +kernel) (vx_Tk hT (by decide +kernel)) (vx_Tr hT (kd := 9) (by decide +kernel) (by decide +kernel) (by decide +kernel)) ?_
    refine vx_bipush (n := 16) (q := 11) (by decide +kernel) ?_
    refine vx_iload_n (n := 2) (q := 12) (by decide +kernel) rfl ?_
    refine vx_imul (q := 13) (by decide +kernel) ?_
    refine vx_iload_n (n := 1) (q := 14) (by decide +kernel) rfl ?_
    refine vx_iadd (q := 15) (by decide +kernel) ?_
    obtain ⟨k4, H⟩ := H
    refine vx_zaload (z := 256) (q := 16) (by decide +kernel) (vx_Tk hT (by decide +kernel)) (vx_Tz hT (by decide +kernel)) (vx_ix k4 (by decide)) ?_
    refine vx_if0_eq (off := 7) (q := 19) (t := 23) (by decide +kernel) (vx_rI_J h 663 ((16 * x2) + x1).toNat) (fun c5 => ?_) (fun c5 => ?_)
    · replace H := H.1 c5
      refine vx_iconst (n := 0) (q := 24) (by decide +kernel) ?_
      refine vx_retZ (q := 25) (by decide +kernel) (Or.inl rfl) ?_
      exact H
    · replace H := H.2 c5
      refine vx_iconst (n := 1) (q := 20) (by decide +kernel) ?_
      refine vx_goto (off := 4) (q := 23) (t := 24) (by decide +kernel) ?_
      refine vx_retZ (q := 25) (by decide +kernel) (Or.inr rfl) ?_
      exact H
