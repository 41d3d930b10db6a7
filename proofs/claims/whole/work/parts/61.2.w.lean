/-! Printed by my own program (wip/whole/gen_seg.py): walks of methods 76-82,83-88 -/
-- RuleHouseModel.finds()Z
theorem vg_76 {d : Nat} {h : ve_H} {P : Int → ve_H → Prop}  (hT : vx_T 625 672 h) (H : vx_W (d + 1) 76 2 [some (.ref 625), some (.int (vx_i 1)), none, none] [] h (vx_RI P)) : vx_CI (d + 1) 76 [.ref 625] h P := by
  refine vx_enter (ml := 4) (by decide +kernel) ?_
  show vx_W _ _ 0 [some (.ref 625), none, none, none] [] h _
  refine vx_iconst (n := 1) (q := 1) (by decide +kernel) ?_
  refine vx_istore_n (n := 1) (q := 2) (lv' := [some (.ref 625), some (.int (vx_i 1)), none, none]) (by decide +kernel) rfl ?_
  exact H
theorem vg_76_2 {d : Nat} {h : ve_H} {P : Int → ve_H → Prop} {v1 : Int} {v2 : Option Value} {v3 : Option Value} (hT : vx_T 625 672 h) (H : (vx_rI v1) ∧ ((v1 = 0 → vx_W (d + 1) 76 192 [some (.ref 625), some (.int (vx_i v1)), some (.int (vx_i (6 * (vx_J h 625 42)))), v3] [] h (vx_RI P)) ∧ (v1 ≠ 0 → vx_CI d 74 [.ref 625] h (fun r3 h3 => vx_T 625 672 h3 → ((r3 ≠ 0 → vx_W (d + 1) 76 25 [some (.ref 625), some (.int (vx_i 0)), some (.int (vx_i (6 * (vx_J h3 625 42)))), v3] [] h3 (vx_RI P)) ∧ (r3 = 0 → P 0 h3)))))) : vx_W (d + 1) 76 2 [some (.ref 625), some (.int (vx_i v1)), v2, v3] [] h (vx_RI P) := by
  refine vx_iload_n (n := 1) (q := 3) (by decide +kernel) rfl ?_
  obtain ⟨k1, H⟩ := H
  refine vx_if0_eq (off := 181) (q := 6) (t := 184) (by decide +kernel) k1 (fun c2 => ?_) (fun c2 => ?_)
  · replace H := H.1 c2
    refine vx_bipush (n := 6) (q := 186) (by decide +kernel) ?_
    refine vx_aload_n (n := 0) (q := 187) (by decide +kernel) rfl ?_
    refine vx_getI (idx := 223) (kd := 9) (s := 42) (fin := false) (q := 190) (by decide +kernel) (vx_Tk hT (by decide +kernel)) ?_
    refine vx_imul (q := 191) (by decide +kernel) ?_
    refine vx_istore_n (n := 2) (q := 192) (lv' := [some (.ref 625), some (.int (vx_i v1)), some (.int (vx_i (6 * (vx_J h 625 42)))), v3]) (by decide +kernel) rfl ?_
    exact H
  · replace H := H.2 c2
    refine vx_aload_n (n := 0) (q := 7) (by decide +kernel) rfl ?_
    refine vx_callI (i := .invokevirtual 391) (how := 3) (cm := 74) (np := 1) (q := 10) (args := [.ref 625]) (rest := []) (by decide +kernel) rfl rfl rfl (vx_w2 (w := 1) (ml := 2) rfl (by decide +kernel)) (vx_rcv (kd := 9) (vx_Tk hT (by decide +kernel)) (by decide +kernel)) H (fun r3 h3 hr3 hs3 H => ?_)
    have hT3 := vx_Tsh hT hs3
    replace H := H hT3
    refine vx_if0_ne (off := 5) (q := 13) (t := 15) (by decide +kernel) hr3 (fun c4 => ?_) (fun c4 => ?_)
    · replace H := H.1 c4
      refine vx_iconst (n := 0) (q := 16) (by decide +kernel) ?_
      refine vx_istore_n (n := 1) (q := 17) (lv' := [some (.ref 625), some (.int (vx_i 0)), v2, v3]) (by decide +kernel) rfl ?_
      refine vx_bipush (n := 6) (q := 19) (by decide +kernel) ?_
      refine vx_aload_n (n := 0) (q := 20) (by decide +kernel) rfl ?_
      refine vx_getI (idx := 223) (kd := 9) (s := 42) (fin := false) (q := 23) (by decide +kernel) (vx_Tk hT3 (by decide +kernel)) ?_
      refine vx_imul (q := 24) (by decide +kernel) ?_
      refine vx_istore_n (n := 2) (q := 25) (lv' := [some (.ref 625), some (.int (vx_i 0)), some (.int (vx_i (6 * (vx_J h3 625 42)))), v3]) (by decide +kernel) rfl ?_
      exact H
    · replace H := H.2 c4
      refine vx_iconst (n := 0) (q := 14) (by decide +kernel) ?_
      refine vx_retZ (q := 15) (by decide +kernel) (Or.inl rfl) ?_
      exact H
theorem vg_76_25 {d : Nat} {h : ve_H} {P : Int → ve_H → Prop} {v1 : Int} {v2 : Int} {v3 : Option Value} (hT : vx_T 625 672 h) (H : (0 ≤ (vx_J h 625 42) ∧ (vx_J h 625 42) < 61) ∧ (vx_rI v2) ∧ (vx_rI ((6 * (vx_J h 625 42)) + (vx_J h 641 (vx_J h 625 42).toNat))) ∧ ((((6 * (vx_J h 625 42)) + (vx_J h 641 (vx_J h 625 42).toNat)) ≤ v2 → vx_W (d + 1) 76 2 [some (.ref 625), some (.int (vx_i v1)), some (.int (vx_i v2)), v3] [] h (vx_RI P)) ∧ (v2 < ((6 * (vx_J h 625 42)) + (vx_J h 641 (vx_J h 625 42).toNat)) → (0 ≤ v2 ∧ v2 < 366) ∧ (((vx_J h 643 v2.toNat) ≠ 3 → vx_W (d + 1) 76 108 [some (.ref 625), some (.int (vx_i v1)), some (.int (vx_i v2)), v3] [] h (vx_RI P)) ∧ ((vx_J h 643 v2.toNat) = 3 → vx_CI d 68 [.ref 625, .int (vx_i v2), .int (vx_i 0)] h (fun r7 h7 => vx_T 625 672 h7 → ((r7 ≠ 0 → vx_W (d + 1) 76 108 [some (.ref 625), some (.int (vx_i v1)), some (.int (vx_i v2)), v3] [] h7 (vx_RI P)) ∧ (r7 = 0 → vx_CI d 68 [.ref 625, .int (vx_i v2), .int (vx_i 1)] h7 (fun r9 h9 => vx_T 625 672 h9 → ((r9 = 0 → vx_W (d + 1) 76 108 [some (.ref 625), some (.int (vx_i v1)), some (.int (vx_i v2)), v3] [] h9 (vx_RI P)) ∧ (r9 ≠ 0 → vx_CI d 68 [.ref 625, .int (vx_i v2), .int (vx_i 2)] h9 (fun r11 h11 => vx_T 625 672 h11 → ((r11 = 0 → vx_W (d + 1) 76 108 [some (.ref 625), some (.int (vx_i v1)), some (.int (vx_i v2)), v3] [] h11 (vx_RI P)) ∧ (r11 ≠ 0 → vx_CI d 73 [.ref 625, .int (vx_i v2)] h11 (fun r13 h13 => vx_T 625 672 h13 → ((r13 ≠ 0 → vx_CV d 75 [.ref 625, .int (vx_i v2), .int (vx_i 0), .long (vx_l (vx_K h13 625 69))] h13 (fun h15 => vx_T 625 672 h15 → vx_W (d + 1) 76 175 [some (.ref 625), some (.int (vx_i 1)), some (.int (vx_i v2)), v3] [] h15 (vx_RI P))) ∧ (r13 = 0 → P 0 h13))))))))))))))))) : vx_W (d + 1) 76 25 [some (.ref 625), some (.int (vx_i v1)), some (.int (vx_i v2)), v3] [] h (vx_RI P) := by
  refine vx_iload_n (n := 2) (q := 26) (by decide +kernel) rfl ?_
  refine vx_bipush (n := 6) (q := 28) (by decide +kernel) ?_
  refine vx_aload_n (n := 0) (q := 29) (by decide +kernel) rfl ?_
  refine vx_getI (idx := 223) (kd := 9) (s := 42) (fin := false) (q := 32) (by decide +kernel) (vx_Tk hT (by decide +kernel)) ?_
  refine vx_imul (q := 33) (by decide +kernel) ?_
  refine vx_aload_n (n := 0) (q := 34) (by decide +kernel) rfl ?_
  refine vx_getR (b := 641) (idx := 56) (kd := 9) (s := 22) (fin := true) (q := 37) (by decide +kernel) (vx_Tk hT (by decide +kernel)) (vx_Tr hT (kd := 9) (by decide +kernel) (by decide +kernel) (by decide +kernel)) ?_
  refine vx_aload_n (n := 0) (q := 38) (by decide +kernel) rfl ?_
  refine vx_getI (idx := 223) (kd := 9) (s := 42) (fin := false) (q := 41) (by decide +kernel) (vx_Tk hT (by decide +kernel)) ?_
  obtain ⟨k1, H⟩ := H
  refine vx_iaload (z := 61) (q := 42) (by decide +kernel) (vx_Tk hT (by decide +kernel)) (vx_Tz hT (by decide +kernel)) (vx_ix k1 (by decide)) ?_
  refine vx_iadd (q := 43) (by decide +kernel) ?_
  obtain ⟨k2, H⟩ := H
  obtain ⟨k3, H⟩ := H
  refine vx_icmp_ge (off := 138) (q := 46) (t := 181) (by decide +kernel) k2 k3 (fun c4 => ?_) (fun c4 => ?_)
  · replace H := H.1 c4
    refine vx_goto (off := (-179)) (q := 184) (t := 2) (by decide +kernel) ?_
    exact H
  · replace H := H.2 c4
    refine vx_aload_n (n := 0) (q := 47) (by decide +kernel) rfl ?_
    refine vx_getR (b := 643) (idx := 62) (kd := 9) (s := 24) (fin := true) (q := 50) (by decide +kernel) (vx_Tk hT (by decide +kernel)) (vx_Tr hT (kd := 9) (by decide +kernel) (by decide +kernel) (by decide +kernel)) ?_
    refine vx_iload_n (n := 2) (q := 51) (by decide +kernel) rfl ?_
    obtain ⟨k5, H⟩ := H
    refine vx_iaload (z := 366) (q := 52) (by decide +kernel) (vx_Tk hT (by decide +kernel)) (vx_Tz hT (by decide +kernel)) (vx_ix k5 (by decide)) ?_
    refine vx_iconst (n := 3) (q := 53) (by decide +kernel) ?_
    refine vx_icmp_ne (off := 55) (q := 56) (t := 108) (by decide +kernel) (vx_rI_J h 643 v2.toNat) (by decide) (fun c6 => ?_) (fun c6 => ?_)
    · replace H := H.1 c6
      exact H
    · replace H := H.2 c6
      refine vx_aload_n (n := 0) (q := 57) (by decide +kernel) rfl ?_
      refine vx_iload_n (n := 2) (q := 58) (by decide +kernel) rfl ?_
      refine vx_iconst (n := 0) (q := 59) (by decide +kernel) ?_
      refine vx_callI (i := .invokevirtual 382) (how := 3) (cm := 68) (np := 3) (q := 62) (args := [.ref 625, .int (vx_i v2), .int (vx_i 0)]) (rest := []) (by decide +kernel) rfl rfl rfl (vx_w2 (w := 3) (ml := 3) rfl (by decide +kernel)) (vx_rcv (kd := 9) (vx_Tk hT (by decide +kernel)) (by decide +kernel)) H (fun r7 h7 hr7 hs7 H => ?_)
      have hT7 := vx_Tsh hT hs7
      replace H := H hT7
      refine vx_if0_ne (off := 46) (q := 65) (t := 108) (by decide +kernel) hr7 (fun c8 => ?_) (fun c8 => ?_)
      · replace H := H.1 c8
        exact H
      · replace H := H.2 c8
        refine vx_aload_n (n := 0) (q := 66) (by decide +kernel) rfl ?_
        refine vx_iload_n (n := 2) (q := 67) (by decide +kernel) rfl ?_
        refine vx_iconst (n := 1) (q := 68) (by decide +kernel) ?_
        refine vx_callI (i := .invokevirtual 382) (how := 3) (cm := 68) (np := 3) (q := 71) (args := [.ref 625, .int (vx_i v2), .int (vx_i 1)]) (rest := []) (by decide +kernel) rfl rfl rfl (vx_w2 (w := 3) (ml := 3) rfl (by decide +kernel)) (vx_rcv (kd := 9) (vx_Tk hT7 (by decide +kernel)) (by decide +kernel)) H (fun r9 h9 hr9 hs9 H => ?_)
        have hT9 := vx_Tsh hT7 hs9
        replace H := H hT9
        refine vx_if0_eq (off := 37) (q := 74) (t := 108) (by decide +kernel) hr9 (fun c10 => ?_) (fun c10 => ?_)
        · replace H := H.1 c10
          exact H
        · replace H := H.2 c10
          refine vx_aload_n (n := 0) (q := 75) (by decide +kernel) rfl ?_
          refine vx_iload_n (n := 2) (q := 76) (by decide +kernel) rfl ?_
          refine vx_iconst (n := 2) (q := 77) (by decide +kernel) ?_
          refine vx_callI (i := .invokevirtual 382) (how := 3) (cm := 68) (np := 3) (q := 80) (args := [.ref 625, .int (vx_i v2), .int (vx_i 2)]) (rest := []) (by decide +kernel) rfl rfl rfl (vx_w2 (w := 3) (ml := 3) rfl (by decide +kernel)) (vx_rcv (kd := 9) (vx_Tk hT9 (by decide +kernel)) (by decide +kernel)) H (fun r11 h11 hr11 hs11 H => ?_)
          have hT11 := vx_Tsh hT9 hs11
          replace H := H hT11
          refine vx_if0_eq (off := 28) (q := 83) (t := 108) (by decide +kernel) hr11 (fun c12 => ?_) (fun c12 => ?_)
          · replace H := H.1 c12
            exact H
          · replace H := H.2 c12
            refine vx_aload_n (n := 0) (q := 84) (by decide +kernel) rfl ?_
            refine vx_iload_n (n := 2) (q := 85) (by decide +kernel) rfl ?_
            refine vx_callI (i := .invokevirtual 388) (how := 3) (cm := 73) (np := 2) (q := 88) (args := [.ref 625, .int (vx_i v2)]) (rest := []) (by decide +kernel) rfl rfl rfl (vx_w2 (w := 2) (ml := 8) rfl (by decide +kernel)) (vx_rcv (kd := 9) (vx_Tk hT11 (by decide +kernel)) (by decide +kernel)) H (fun r13 h13 hr13 hs13 H => ?_)
            have hT13 := vx_Tsh hT11 hs13
            replace H := H hT13
            refine vx_if0_ne (off := 5) (q := 91) (t := 93) (by decide +kernel) hr13 (fun c14 => ?_) (fun c14 => ?_)
            · replace H := H.1 c14
              refine vx_aload_n (n := 0) (q := 94) (by decide +kernel) rfl ?_
              refine vx_iload_n (n := 2) (q := 95) (by decide +kernel) rfl ?_
              refine vx_iconst (n := 0) (q := 96) (by decide +kernel) ?_
              refine vx_aload_n (n := 0) (q := 97) (by decide +kernel) rfl ?_
              refine vx_getL (idx := 379) (kd := 9) (s := 69) (fin := false) (q := 100) (by decide +kernel) (vx_Tk hT13 (by decide +kernel)) ?_
              refine vx_callV (i := .invokevirtual 394) (how := 3) (cm := 75) (np := 4) (q := 103) (args := [.ref 625, .int (vx_i v2), .int (vx_i 0), .long (vx_l (vx_K h13 625 69))]) (rest := []) (by decide +kernel) rfl rfl rfl (vx_w2 (w := 5) (ml := 6) rfl (by decide +kernel)) (vx_rcv (kd := 9) (vx_Tk hT13 (by decide +kernel)) (by decide +kernel)) H (fun h15 hs15 H => ?_)
              have hT15 := vx_Tsh hT13 hs15
              replace H := H hT15
              refine vx_iconst (n := 1) (q := 104) (by decide +kernel) ?_
              refine vx_istore_n (n := 1) (q := 105) (lv' := [some (.ref 625), some (.int (vx_i 1)), some (.int (vx_i v2)), v3]) (by decide +kernel) rfl ?_
              refine vx_goto (off := 70) (q := 108) (t := 175) (by decide +kernel) ?_
              exact H
            · replace H := H.2 c14
              refine vx_iconst (n := 0) (q := 92) (by decide +kernel) ?_
              refine vx_retZ (q := 93) (by decide +kernel) (Or.inl rfl) ?_
              exact H
theorem vg_76_108 {d : Nat} {h : ve_H} {P : Int → ve_H → Prop} {v1 : Int} {v2 : Int} {v3 : Option Value} (hT : vx_T 625 672 h) (H : (0 ≤ v2 ∧ v2 < 366) ∧ (((vx_J h 643 v2.toNat) ≠ 2 → vx_W (d + 1) 76 175 [some (.ref 625), some (.int (vx_i v1)), some (.int (vx_i v2)), v3] [] h (vx_RI P)) ∧ ((vx_J h 643 v2.toNat) = 2 → (0 ≤ v2 ∧ v2 < 366) ∧ (((vx_J h 644 v2.toNat) ≠ 61 → vx_W (d + 1) 76 175 [some (.ref 625), some (.int (vx_i v1)), some (.int (vx_i v2)), v3] [] h (vx_RI P)) ∧ ((vx_J h 644 v2.toNat) = 61 → vx_CI d 68 [.ref 625, .int (vx_i v2), .int (vx_i 0)] h (fun r5 h5 => vx_T 625 672 h5 → vx_CI d 68 [.ref 625, .int (vx_i v2), .int (vx_i 1)] h5 (fun r6 h6 => vx_T 625 672 h6 → ((r5 = r6 → vx_W (d + 1) 76 175 [some (.ref 625), some (.int (vx_i v1)), some (.int (vx_i v2)), v3] [] h6 (vx_RI P)) ∧ (r5 ≠ r6 → vx_CI d 68 [.ref 625, .int (vx_i v2), .int (vx_i 0)] h6 (fun r8 h8 => vx_T 625 672 h8 → ((r8 = 0 → vx_CL d 69 [.ref 625, .int (vx_i v2), .int (vx_i (1 - 0))] h8 (fun r10 h10 => vx_T 625 672 h10 → vx_CV d 75 [.ref 625, .int (vx_i v2), .int (vx_i 0), .long (vx_l r10)] h10 (fun h11 => vx_T 625 672 h11 → vx_W (d + 1) 76 175 [some (.ref 625), some (.int (vx_i 1)), some (.int (vx_i v2)), some (.int (vx_i 0))] [] h11 (vx_RI P)))) ∧ (r8 ≠ 0 → vx_CL d 69 [.ref 625, .int (vx_i v2), .int (vx_i (1 - 1))] h8 (fun r12 h12 => vx_T 625 672 h12 → vx_CV d 75 [.ref 625, .int (vx_i v2), .int (vx_i 1), .long (vx_l r12)] h12 (fun h13 => vx_T 625 672 h13 → vx_W (d + 1) 76 175 [some (.ref 625), some (.int (vx_i 1)), some (.int (vx_i v2)), some (.int (vx_i 1))] [] h13 (vx_RI P))))))))))))))) : vx_W (d + 1) 76 108 [some (.ref 625), some (.int (vx_i v1)), some (.int (vx_i v2)), v3] [] h (vx_RI P) := by
  refine vx_aload_n (n := 0) (q := 109) (by decide +kernel) rfl ?_
  refine vx_getR (b := 643) (idx := 62) (kd := 9) (s := 24) (fin := true) (q := 112) (by decide +kernel) (vx_Tk hT (by decide +kernel)) (vx_Tr hT (kd := 9) (by decide +kernel) (by decide +kernel) (by decide +kernel)) ?_
  refine vx_iload_n (n := 2) (q := 113) (by decide +kernel) rfl ?_
  obtain ⟨k1, H⟩ := H
  refine vx_iaload (z := 366) (q := 114) (by decide +kernel) (vx_Tk hT (by decide +kernel)) (vx_Tz hT (by decide +kernel)) (vx_ix k1 (by decide)) ?_
  refine vx_iconst (n := 2) (q := 115) (by decide +kernel) ?_
  refine vx_icmp_ne (off := 60) (q := 118) (t := 175) (by decide +kernel) (vx_rI_J h 643 v2.toNat) (by decide) (fun c2 => ?_) (fun c2 => ?_)
  · replace H := H.1 c2
    exact H
  · replace H := H.2 c2
    refine vx_aload_n (n := 0) (q := 119) (by decide +kernel) rfl ?_
    refine vx_getR (b := 644) (idx := 65) (kd := 9) (s := 25) (fin := true) (q := 122) (by decide +kernel) (vx_Tk hT (by decide +kernel)) (vx_Tr hT (kd := 9) (by decide +kernel) (by decide +kernel) (by decide +kernel)) ?_
    refine vx_iload_n (n := 2) (q := 123) (by decide +kernel) rfl ?_
    obtain ⟨k3, H⟩ := H
    refine vx_iaload (z := 366) (q := 124) (by decide +kernel) (vx_Tk hT (by decide +kernel)) (vx_Tz hT (by decide +kernel)) (vx_ix k3 (by decide)) ?_
    refine vx_bipush (n := 61) (q := 126) (by decide +kernel) ?_
    refine vx_icmp_ne (off := 49) (q := 129) (t := 175) (by decide +kernel) (vx_rI_J h 644 v2.toNat) (by decide) (fun c4 => ?_) (fun c4 => ?_)
    · replace H := H.1 c4
      exact H
    · replace H := H.2 c4
      refine vx_aload_n (n := 0) (q := 130) (by decide +kernel) rfl ?_
      refine vx_iload_n (n := 2) (q := 131) (by decide +kernel) rfl ?_
      refine vx_iconst (n := 0) (q := 132) (by decide +kernel) ?_
      refine vx_callI (i := .invokevirtual 382) (how := 3) (cm := 68) (np := 3) (q := 135) (args := [.ref 625, .int (vx_i v2), .int (vx_i 0)]) (rest := []) (by decide +kernel) rfl rfl rfl (vx_w2 (w := 3) (ml := 3) rfl (by decide +kernel)) (vx_rcv (kd := 9) (vx_Tk hT (by decide +kernel)) (by decide +kernel)) H (fun r5 h5 hr5 hs5 H => ?_)
      have hT5 := vx_Tsh hT hs5
      replace H := H hT5
      refine vx_aload_n (n := 0) (q := 136) (by decide +kernel) rfl ?_
      refine vx_iload_n (n := 2) (q := 137) (by decide +kernel) rfl ?_
      refine vx_iconst (n := 1) (q := 138) (by decide +kernel) ?_
      refine vx_callI (i := .invokevirtual 382) (how := 3) (cm := 68) (np := 3) (q := 141) (args := [.ref 625, .int (vx_i v2), .int (vx_i 1)]) (rest := [.int (vx_i r5)]) (by decide +kernel) rfl rfl rfl (vx_w2 (w := 3) (ml := 3) rfl (by decide +kernel)) (vx_rcv (kd := 9) (vx_Tk hT5 (by decide +kernel)) (by decide +kernel)) H (fun r6 h6 hr6 hs6 H => ?_)
      have hT6 := vx_Tsh hT5 hs6
      replace H := H hT6
      refine vx_icmp_eq (off := 34) (q := 144) (t := 175) (by decide +kernel) hr5 hr6 (fun c7 => ?_) (fun c7 => ?_)
      · replace H := H.1 c7
        exact H
      · replace H := H.2 c7
        refine vx_aload_n (n := 0) (q := 145) (by decide +kernel) rfl ?_
        refine vx_iload_n (n := 2) (q := 146) (by decide +kernel) rfl ?_
        refine vx_iconst (n := 0) (q := 147) (by decide +kernel) ?_
        refine vx_callI (i := .invokevirtual 382) (how := 3) (cm := 68) (np := 3) (q := 150) (args := [.ref 625, .int (vx_i v2), .int (vx_i 0)]) (rest := []) (by decide +kernel) rfl rfl rfl (vx_w2 (w := 3) (ml := 3) rfl (by decide +kernel)) (vx_rcv (kd := 9) (vx_Tk hT6 (by decide +kernel)) (by decide +kernel)) H (fun r8 h8 hr8 hs8 H => ?_)
        have hT8 := vx_Tsh hT6 hs8
        replace H := H hT8
        refine vx_if0_eq (off := 7) (q := 153) (t := 157) (by decide +kernel) hr8 (fun c9 => ?_) (fun c9 => ?_)
        · replace H := H.1 c9
          refine vx_iconst (n := 0) (q := 158) (by decide +kernel) ?_
          refine vx_istore_n (n := 3) (q := 159) (lv' := [some (.ref 625), some (.int (vx_i v1)), some (.int (vx_i v2)), some (.int (vx_i 0))]) (by decide +kernel) rfl ?_
          refine vx_aload_n (n := 0) (q := 160) (by decide +kernel) rfl ?_
          refine vx_iload_n (n := 2) (q := 161) (by decide +kernel) rfl ?_
          refine vx_iload_n (n := 3) (q := 162) (by decide +kernel) rfl ?_
          refine vx_aload_n (n := 0) (q := 163) (by decide +kernel) rfl ?_
          refine vx_iload_n (n := 2) (q := 164) (by decide +kernel) rfl ?_
          refine vx_iconst (n := 1) (q := 165) (by decide +kernel) ?_
          refine vx_iload_n (n := 3) (q := 166) (by decide +kernel) rfl ?_
          refine vx_isub (q := 167) (by decide +kernel) ?_
          refine vx_callL (i := .invokevirtual 371) (how := 3) (cm := 69) (np := 3) (q := 170) (args := [.ref 625, .int (vx_i v2), .int (vx_i (1 - 0))]) (rest := [.int (vx_i 0), .int (vx_i v2), .ref 625]) (by decide +kernel) rfl rfl rfl (vx_w2 (w := 3) (ml := 3) rfl (by decide +kernel)) (vx_rcv (kd := 9) (vx_Tk hT8 (by decide +kernel)) (by decide +kernel)) H (fun r10 h10 hr10 hs10 H => ?_)
          have hT10 := vx_Tsh hT8 hs10
          replace H := H hT10
          refine vx_callV (i := .invokevirtual 394) (how := 3) (cm := 75) (np := 4) (q := 173) (args := [.ref 625, .int (vx_i v2), .int (vx_i 0), .long (vx_l r10)]) (rest := []) (by decide +kernel) rfl rfl rfl (vx_w2 (w := 5) (ml := 6) rfl (by decide +kernel)) (vx_rcv (kd := 9) (vx_Tk hT10 (by decide +kernel)) (by decide +kernel)) H (fun h11 hs11 H => ?_)
          have hT11 := vx_Tsh hT10 hs11
          replace H := H hT11
          refine vx_iconst (n := 1) (q := 174) (by decide +kernel) ?_
          refine vx_istore_n (n := 1) (q := 175) (lv' := [some (.ref 625), some (.int (vx_i 1)), some (.int (vx_i v2)), some (.int (vx_i 0))]) (by decide +kernel) rfl ?_
          exact H
        · replace H := H.2 c9
          refine vx_iconst (n := 1) (q := 154) (by decide +kernel) ?_
          refine vx_goto (off := 4) (q := 157) (t := 158) (by decide +kernel) ?_
          refine vx_istore_n (n := 3) (q := 159) (lv' := [some (.ref 625), some (.int (vx_i v1)), some (.int (vx_i v2)), some (.int (vx_i 1))]) (by decide +kernel) rfl ?_
          refine vx_aload_n (n := 0) (q := 160) (by decide +kernel) rfl ?_
          refine vx_iload_n (n := 2) (q := 161) (by decide +kernel) rfl ?_
          refine vx_iload_n (n := 3) (q := 162) (by decide +kernel) rfl ?_
          refine vx_aload_n (n := 0) (q := 163) (by decide +kernel) rfl ?_
          refine vx_iload_n (n := 2) (q := 164) (by decide +kernel) rfl ?_
          refine vx_iconst (n := 1) (q := 165) (by decide +kernel) ?_
          refine vx_iload_n (n := 3) (q := 166) (by decide +kernel) rfl ?_
          refine vx_isub (q := 167) (by decide +kernel) ?_
          refine vx_callL (i := .invokevirtual 371) (how := 3) (cm := 69) (np := 3) (q := 170) (args := [.ref 625, .int (vx_i v2), .int (vx_i (1 - 1))]) (rest := [.int (vx_i 1), .int (vx_i v2), .ref 625]) (by decide +kernel) rfl rfl rfl (vx_w2 (w := 3) (ml := 3) rfl (by decide +kernel)) (vx_rcv (kd := 9) (vx_Tk hT8 (by decide +kernel)) (by decide +kernel)) H (fun r12 h12 hr12 hs12 H => ?_)
          have hT12 := vx_Tsh hT8 hs12
          replace H := H hT12
          refine vx_callV (i := .invokevirtual 394) (how := 3) (cm := 75) (np := 4) (q := 173) (args := [.ref 625, .int (vx_i v2), .int (vx_i 1), .long (vx_l r12)]) (rest := []) (by decide +kernel) rfl rfl rfl (vx_w2 (w := 5) (ml := 6) rfl (by decide +kernel)) (vx_rcv (kd := 9) (vx_Tk hT12 (by decide +kernel)) (by decide +kernel)) H (fun h13 hs13 H => ?_)
          have hT13 := vx_Tsh hT12 hs13
          replace H := H hT13
          refine vx_iconst (n := 1) (q := 174) (by decide +kernel) ?_
          refine vx_istore_n (n := 1) (q := 175) (lv' := [some (.ref 625), some (.int (vx_i 1)), some (.int (vx_i v2)), some (.int (vx_i 1))]) (by decide +kernel) rfl ?_
          exact H
theorem vg_76_175 {d : Nat} {h : ve_H} {P : Int → ve_H → Prop} {v1 : Int} {v2 : Int} {v3 : Option Value} (hT : vx_T 625 672 h) (H : vx_W (d + 1) 76 25 [some (.ref 625), some (.int (vx_i v1)), some (.int (vx_i (v2 + 1))), v3] [] h (vx_RI P)) : vx_W (d + 1) 76 175 [some (.ref 625), some (.int (vx_i v1)), some (.int (vx_i v2)), v3] [] h (vx_RI P) := by
  refine vx_iinc (n := 2) (m := 1) (x := v2) (q := 178) (lv' := [some (.ref 625), some (.int (vx_i v1)), some (.int (vx_i (v2 + 1))), v3]) (by decide +kernel) rfl rfl ?_
  refine vx_goto (off := (-153)) (q := 181) (t := 25) (by decide +kernel) ?_
  exact H
theorem vg_76_192 {d : Nat} {h : ve_H} {P : Int → ve_H → Prop} {v1 : Int} {v2 : Int} {v3 : Option Value} (hT : vx_T 625 672 h) (H : (0 ≤ (vx_J h 625 42) ∧ (vx_J h 625 42) < 61) ∧ (vx_rI v2) ∧ (vx_rI ((6 * (vx_J h 625 42)) + (vx_J h 641 (vx_J h 625 42).toNat))) ∧ ((((6 * (vx_J h 625 42)) + (vx_J h 641 (vx_J h 625 42).toNat)) ≤ v2 → P 1 h) ∧ (v2 < ((6 * (vx_J h 625 42)) + (vx_J h 641 (vx_J h 625 42).toNat)) → (0 ≤ v2 ∧ v2 < 366) ∧ (((vx_J h 643 v2.toNat) = 1 → vx_W (d + 1) 76 228 [some (.ref 625), some (.int (vx_i v1)), some (.int (vx_i v2)), some (.int (vx_i 0))] [] h (vx_RI P)) ∧ ((vx_J h 643 v2.toNat) ≠ 1 → vx_W (d + 1) 76 192 [some (.ref 625), some (.int (vx_i v1)), some (.int (vx_i (v2 + 1))), v3] [] h (vx_RI P)))))) : vx_W (d + 1) 76 192 [some (.ref 625), some (.int (vx_i v1)), some (.int (vx_i v2)), v3] [] h (vx_RI P) := by
  refine vx_iload_n (n := 2) (q := 193) (by decide +kernel) rfl ?_
  refine vx_bipush (n := 6) (q := 195) (by decide +kernel) ?_
  refine vx_aload_n (n := 0) (q := 196) (by decide +kernel) rfl ?_
  refine vx_getI (idx := 223) (kd := 9) (s := 42) (fin := false) (q := 199) (by decide +kernel) (vx_Tk hT (by decide +kernel)) ?_
  refine vx_imul (q := 200) (by decide +kernel) ?_
  refine vx_aload_n (n := 0) (q := 201) (by decide +kernel) rfl ?_
  refine vx_getR (b := 641) (idx := 56) (kd := 9) (s := 22) (fin := true) (q := 204) (by decide +kernel) (vx_Tk hT (by decide +kernel)) (vx_Tr hT (kd := 9) (by decide +kernel) (by decide +kernel) (by decide +kernel)) ?_
  refine vx_aload_n (n := 0) (q := 205) (by decide +kernel) rfl ?_
  refine vx_getI (idx := 223) (kd := 9) (s := 42) (fin := false) (q := 208) (by decide +kernel) (vx_Tk hT (by decide +kernel)) ?_
  obtain ⟨k1, H⟩ := H
  refine vx_iaload (z := 61) (q := 209) (by decide +kernel) (vx_Tk hT (by decide +kernel)) (vx_Tz hT (by decide +kernel)) (vx_ix k1 (by decide)) ?_
  refine vx_iadd (q := 210) (by decide +kernel) ?_
  obtain ⟨k2, H⟩ := H
  obtain ⟨k3, H⟩ := H
  refine vx_icmp_ge (off := 49) (q := 213) (t := 259) (by decide +kernel) k2 k3 (fun c4 => ?_) (fun c4 => ?_)
  · replace H := H.1 c4
    refine vx_iconst (n := 1) (q := 260) (by decide +kernel) ?_
    refine vx_retZ (q := 261) (by decide +kernel) (Or.inr rfl) ?_
    exact H
  · replace H := H.2 c4
    refine vx_aload_n (n := 0) (q := 214) (by decide +kernel) rfl ?_
    refine vx_getR (b := 643) (idx := 62) (kd := 9) (s := 24) (fin := true) (q := 217) (by decide +kernel) (vx_Tk hT (by decide +kernel)) (vx_Tr hT (kd := 9) (by decide +kernel) (by decide +kernel) (by decide +kernel)) ?_
    refine vx_iload_n (n := 2) (q := 218) (by decide +kernel) rfl ?_
    obtain ⟨k5, H⟩ := H
    refine vx_iaload (z := 366) (q := 219) (by decide +kernel) (vx_Tk hT (by decide +kernel)) (vx_Tz hT (by decide +kernel)) (vx_ix k5 (by decide)) ?_
    refine vx_iconst (n := 1) (q := 220) (by decide +kernel) ?_
    refine vx_icmp_eq (off := 6) (q := 223) (t := 226) (by decide +kernel) (vx_rI_J h 643 v2.toNat) (by decide) (fun c6 => ?_) (fun c6 => ?_)
    · replace H := H.1 c6
      refine vx_iconst (n := 0) (q := 227) (by decide +kernel) ?_
      refine vx_istore_n (n := 3) (q := 228) (lv' := [some (.ref 625), some (.int (vx_i v1)), some (.int (vx_i v2)), some (.int (vx_i 0))]) (by decide +kernel) rfl ?_
      exact H
    · replace H := H.2 c6
      refine vx_goto (off := 30) (q := 226) (t := 253) (by decide +kernel) ?_
      refine vx_iinc (n := 2) (m := 1) (x := v2) (q := 256) (lv' := [some (.ref 625), some (.int (vx_i v1)), some (.int (vx_i (v2 + 1))), v3]) (by decide +kernel) rfl rfl ?_
      refine vx_goto (off := (-64)) (q := 259) (t := 192) (by decide +kernel) ?_
      exact H
theorem vg_76_228 {d : Nat} {h : ve_H} {P : Int → ve_H → Prop} {v1 : Int} {v2 : Int} {v3 : Int} (hT : vx_T 625 672 h) (H : (vx_rI v3) ∧ (((vx_J h 625 65) ≤ v3 → vx_W (d + 1) 76 192 [some (.ref 625), some (.int (vx_i v1)), some (.int (vx_i (v2 + 1))), some (.int (vx_i v3))] [] h (vx_RI P)) ∧ (v3 < (vx_J h 625 65) → vx_CI d 70 [.ref 625, .int (vx_i v3), .int (vx_i v2)] h (fun r3 h3 => vx_T 625 672 h3 → ((r3 = 0 → vx_W (d + 1) 76 228 [some (.ref 625), some (.int (vx_i v1)), some (.int (vx_i v2)), some (.int (vx_i (v3 + 1)))] [] h3 (vx_RI P)) ∧ (r3 ≠ 0 → P 0 h3)))))) : vx_W (d + 1) 76 228 [some (.ref 625), some (.int (vx_i v1)), some (.int (vx_i v2)), some (.int (vx_i v3))] [] h (vx_RI P) := by
  refine vx_iload_n (n := 3) (q := 229) (by decide +kernel) rfl ?_
  refine vx_aload_n (n := 0) (q := 230) (by decide +kernel) rfl ?_
  refine vx_getI (idx := 398) (kd := 9) (s := 65) (fin := false) (q := 233) (by decide +kernel) (vx_Tk hT (by decide +kernel)) ?_
  obtain ⟨k1, H⟩ := H
  refine vx_icmp_ge (off := 20) (q := 236) (t := 253) (by decide +kernel) k1 (vx_rI_J h 625 65) (fun c2 => ?_) (fun c2 => ?_)
  · replace H := H.1 c2
    refine vx_iinc (n := 2) (m := 1) (x := v2) (q := 256) (lv' := [some (.ref 625), some (.int (vx_i v1)), some (.int (vx_i (v2 + 1))), some (.int (vx_i v3))]) (by decide +kernel) rfl rfl ?_
    refine vx_goto (off := (-64)) (q := 259) (t := 192) (by decide +kernel) ?_
    exact H
  · replace H := H.2 c2
    refine vx_aload_n (n := 0) (q := 237) (by decide +kernel) rfl ?_
    refine vx_iload_n (n := 3) (q := 238) (by decide +kernel) rfl ?_
    refine vx_iload_n (n := 2) (q := 239) (by decide +kernel) rfl ?_
    refine vx_callI (i := .invokevirtual 401) (how := 3) (cm := 70) (np := 3) (q := 242) (args := [.ref 625, .int (vx_i v3), .int (vx_i v2)]) (rest := []) (by decide +kernel) rfl rfl rfl (vx_w2 (w := 3) (ml := 5) rfl (by decide +kernel)) (vx_rcv (kd := 9) (vx_Tk hT (by decide +kernel)) (by decide +kernel)) H (fun r3 h3 hr3 hs3 H => ?_)
    have hT3 := vx_Tsh hT hs3
    replace H := H hT3
    refine vx_if0_eq (off := 5) (q := 245) (t := 247) (by decide +kernel) hr3 (fun c4 => ?_) (fun c4 => ?_)
    · replace H := H.1 c4
      refine vx_iinc (n := 3) (m := 1) (x := v3) (q := 250) (lv' := [some (.ref 625), some (.int (vx_i v1)), some (.int (vx_i v2)), some (.int (vx_i (v3 + 1)))]) (by decide +kernel) rfl rfl ?_
      refine vx_goto (off := (-22)) (q := 253) (t := 228) (by decide +kernel) ?_
      exact H
    · replace H := H.2 c4
      refine vx_iconst (n := 0) (q := 246) (by decide +kernel) ?_
      refine vx_retZ (q := 247) (by decide +kernel) (Or.inl rfl) ?_
      exact H
-- RuleHouseModel.keep(I)V
theorem vg_77 {d : Nat} {h : ve_H} {P : ve_H → Prop} {x1 : Int} (hT : vx_T 625 672 h) (H : vx_W d 77 2 [some (.ref 625), some (.int (vx_i x1)), some (.int (vx_i 0))] [] h (vx_RV P)) : vx_CV d 77 [.ref 625, .int (vx_i x1)] h P := by
  refine vx_enter (ml := 3) (by decide +kernel) ?_
  show vx_W _ _ 0 [some (.ref 625), some (.int (vx_i x1)), none] [] h _
  refine vx_iconst (n := 0) (q := 1) (by decide +kernel) ?_
  refine vx_istore_n (n := 2) (q := 2) (lv' := [some (.ref 625), some (.int (vx_i x1)), some (.int (vx_i 0))]) (by decide +kernel) rfl ?_
  exact H
theorem vg_77_2 {d : Nat} {h : ve_H} {P : ve_H → Prop} {v1 : Int} {v2 : Int} (hT : vx_T 625 672 h) (H : (vx_rI v2) ∧ ((9 ≤ v2 → P h) ∧ (v2 < 9 → (0 ≤ v2 ∧ v2 < 9) ∧ (0 ≤ ((9 * v1) + v2) ∧ ((9 * v1) + v2) < 36) ∧ ((vx_J h 664 v2.toNat) = 0 ∨ (vx_J h 664 v2.toNat) = 1) ∧ (∀ h6, h6 = vx_sJ h 667 ((9 * v1) + v2).toNat (vx_J h 664 v2.toNat) → vx_T 625 672 h6 → (0 ≤ v2 ∧ v2 < 9) ∧ (0 ≤ ((9 * v1) + v2) ∧ ((9 * v1) + v2) < 36) ∧ (∀ h9, h9 = vx_sK h6 668 ((9 * v1) + v2).toNat (vx_K h6 665 v2.toNat) → vx_T 625 672 h9 → vx_W d 77 2 [some (.ref 625), some (.int (vx_i v1)), some (.int (vx_i (v2 + 1)))] [] h9 (vx_RV P)))))) : vx_W d 77 2 [some (.ref 625), some (.int (vx_i v1)), some (.int (vx_i v2))] [] h (vx_RV P) := by
  refine vx_iload_n (n := 2) (q := 3) (by decide +kernel) rfl ?_
  refine vx_bipush (n := 9) (q := 5) (by decide +kernel) ?_
  obtain ⟨k1, H⟩ := H
  refine vx_icmp_ge (off := 43) (q := 8) (t := 48) (by decide +kernel) k1 (by decide) (fun c2 => ?_) (fun c2 => ?_)
  · replace H := H.1 c2
    refine vx_retV (q := 49) (by decide +kernel) ?_
    exact H
  · replace H := H.2 c2
    refine vx_aload_n (n := 0) (q := 9) (by decide +kernel) rfl ?_
    refine vx_getR (b := 667) (idx := 139) (kd := 9) (s := 72) (fin := true) (q := 12) (by decide +kernel) (vx_Tk hT (by decide +kernel)) (vx_Tr hT (kd := 9) (by decide +kernel) (by decide +kernel) (by decide +kernel)) ?_
    refine vx_bipush (n := 9) (q := 14) (by decide +kernel) ?_
    refine vx_iload_n (n := 1) (q := 15) (by decide +kernel) rfl ?_
    refine vx_imul (q := 16) (by decide +kernel) ?_
    refine vx_iload_n (n := 2) (q := 17) (by decide +kernel) rfl ?_
    refine vx_iadd (q := 18) (by decide +kernel) ?_
    refine vx_aload_n (n := 0) (q := 19) (by decide +kernel) rfl ?_
    refine vx_getR (b := 664) (idx := 130) (kd := 9) (s := 63) (fin := true) (q := 22) (by decide +kernel) (vx_Tk hT (by decide +kernel)) (vx_Tr hT (kd := 9) (by decide +kernel) (by decide +kernel) (by decide +kernel)) ?_
    refine vx_iload_n (n := 2) (q := 23) (by decide +kernel) rfl ?_
    obtain ⟨k3, H⟩ := H
    refine vx_zaload (z := 9) (q := 24) (by decide +kernel) (vx_Tk hT (by decide +kernel)) (vx_Tz hT (by decide +kernel)) (vx_ix k3 (by decide)) ?_
    obtain ⟨k4, H⟩ := H
    obtain ⟨k5, H⟩ := H
    refine vx_zastore (z := 36) (q := 25) (by decide +kernel) (vx_Tk hT (by decide +kernel)) (vx_Tz hT (by decide +kernel)) (vx_ix k4 (by decide)) k5 (fun h6 e6 => ?_)
    have hT6 := vx_TJ hT e6
    replace H := H h6 e6 hT6
    refine vx_aload_n (n := 0) (q := 26) (by decide +kernel) rfl ?_
    refine vx_getR (b := 668) (idx := 142) (kd := 9) (s := 73) (fin := true) (q := 29) (by decide +kernel) (vx_Tk hT6 (by decide +kernel)) (vx_Tr hT6 (kd := 9) (by decide +kernel) (by decide +kernel) (by decide +kernel)) ?_
    refine vx_bipush (n := 9) (q := 31) (by decide +kernel) ?_
    refine vx_iload_n (n := 1) (q := 32) (by decide +kernel) rfl ?_
    refine vx_imul (q := 33) (by decide +kernel) ?_
    refine vx_iload_n (n := 2) (q := 34) (by decide +kernel) rfl ?_
    refine vx_iadd (q := 35) (by decide +kernel) ?_
    refine vx_aload_n (n := 0) (q := 36) (by decide +kernel) rfl ?_
    refine vx_getR (b := 665) (idx := 133) (kd := 9) (s := 64) (fin := true) (q := 39) (by decide +kernel) (vx_Tk hT6 (by decide +kernel)) (vx_Tr hT6 (kd := 9) (by decide +kernel) (by decide +kernel) (by decide +kernel)) ?_
    refine vx_iload_n (n := 2) (q := 40) (by decide +kernel) rfl ?_
    obtain ⟨k7, H⟩ := H
    refine vx_laload (z := 9) (q := 41) (by decide +kernel) (vx_Tk hT6 (by decide +kernel)) (vx_Tz hT6 (by decide +kernel)) (vx_ix k7 (by decide)) ?_
    obtain ⟨k8, H⟩ := H
    refine vx_lastore (z := 36) (q := 42) (by decide +kernel) (vx_Tk hT6 (by decide +kernel)) (vx_Tz hT6 (by decide +kernel)) (vx_ix k8 (by decide)) (fun h9 e9 => ?_)
    have hT9 := vx_TK hT6 e9
    replace H := H h9 e9 hT9
    refine vx_iinc (n := 2) (m := 1) (x := v2) (q := 45) (lv' := [some (.ref 625), some (.int (vx_i v1)), some (.int (vx_i (v2 + 1)))]) (by decide +kernel) rfl rfl ?_
    refine vx_goto (off := (-43)) (q := 48) (t := 2) (by decide +kernel) ?_
    exact H
-- RuleHouseModel.restore(I)V
theorem vg_78 {d : Nat} {h : ve_H} {P : ve_H → Prop} {x1 : Int} (hT : vx_T 625 672 h) (H : vx_W d 78 2 [some (.ref 625), some (.int (vx_i x1)), some (.int (vx_i 0))] [] h (vx_RV P)) : vx_CV d 78 [.ref 625, .int (vx_i x1)] h P := by
  refine vx_enter (ml := 3) (by decide +kernel) ?_
  show vx_W _ _ 0 [some (.ref 625), some (.int (vx_i x1)), none] [] h _
  refine vx_iconst (n := 0) (q := 1) (by decide +kernel) ?_
  refine vx_istore_n (n := 2) (q := 2) (lv' := [some (.ref 625), some (.int (vx_i x1)), some (.int (vx_i 0))]) (by decide +kernel) rfl ?_
  exact H
theorem vg_78_2 {d : Nat} {h : ve_H} {P : ve_H → Prop} {v1 : Int} {v2 : Int} (hT : vx_T 625 672 h) (H : (vx_rI v2) ∧ ((9 ≤ v2 → P h) ∧ (v2 < 9 → (0 ≤ ((9 * v1) + v2) ∧ ((9 * v1) + v2) < 36) ∧ (0 ≤ v2 ∧ v2 < 9) ∧ ((vx_J h 667 ((9 * v1) + v2).toNat) = 0 ∨ (vx_J h 667 ((9 * v1) + v2).toNat) = 1) ∧ (∀ h6, h6 = vx_sJ h 664 v2.toNat (vx_J h 667 ((9 * v1) + v2).toNat) → vx_T 625 672 h6 → (0 ≤ ((9 * v1) + v2) ∧ ((9 * v1) + v2) < 36) ∧ (0 ≤ v2 ∧ v2 < 9) ∧ (∀ h9, h9 = vx_sK h6 665 v2.toNat (vx_K h6 668 ((9 * v1) + v2).toNat) → vx_T 625 672 h9 → vx_W d 78 2 [some (.ref 625), some (.int (vx_i v1)), some (.int (vx_i (v2 + 1)))] [] h9 (vx_RV P)))))) : vx_W d 78 2 [some (.ref 625), some (.int (vx_i v1)), some (.int (vx_i v2))] [] h (vx_RV P) := by
  refine vx_iload_n (n := 2) (q := 3) (by decide +kernel) rfl ?_
  refine vx_bipush (n := 9) (q := 5) (by decide +kernel) ?_
  obtain ⟨k1, H⟩ := H
  refine vx_icmp_ge (off := 43) (q := 8) (t := 48) (by decide +kernel) k1 (by decide) (fun c2 => ?_) (fun c2 => ?_)
  · replace H := H.1 c2
    refine vx_retV (q := 49) (by decide +kernel) ?_
    exact H
  · replace H := H.2 c2
    refine vx_aload_n (n := 0) (q := 9) (by decide +kernel) rfl ?_
    refine vx_getR (b := 664) (idx := 130) (kd := 9) (s := 63) (fin := true) (q := 12) (by decide +kernel) (vx_Tk hT (by decide +kernel)) (vx_Tr hT (kd := 9) (by decide +kernel) (by decide +kernel) (by decide +kernel)) ?_
    refine vx_iload_n (n := 2) (q := 13) (by decide +kernel) rfl ?_
    refine vx_aload_n (n := 0) (q := 14) (by decide +kernel) rfl ?_
    refine vx_getR (b := 667) (idx := 139) (kd := 9) (s := 72) (fin := true) (q := 17) (by decide +kernel) (vx_Tk hT (by decide +kernel)) (vx_Tr hT (kd := 9) (by decide +kernel) (by decide +kernel) (by decide +kernel)) ?_
    refine vx_bipush (n := 9) (q := 19) (by decide +kernel) ?_
    refine vx_iload_n (n := 1) (q := 20) (by decide +kernel) rfl ?_
    refine vx_imul (q := 21) (by decide +kernel) ?_
    refine vx_iload_n (n := 2) (q := 22) (by decide +kernel) rfl ?_
    refine vx_iadd (q := 23) (by decide +kernel) ?_
    obtain ⟨k3, H⟩ := H
    refine vx_zaload (z := 36) (q := 24) (by decide +kernel) (vx_Tk hT (by decide +kernel)) (vx_Tz hT (by decide +kernel)) (vx_ix k3 (by decide)) ?_
    obtain ⟨k4, H⟩ := H
    obtain ⟨k5, H⟩ := H
    refine vx_zastore (z := 9) (q := 25) (by decide +kernel) (vx_Tk hT (by decide +kernel)) (vx_Tz hT (by decide +kernel)) (vx_ix k4 (by decide)) k5 (fun h6 e6 => ?_)
    have hT6 := vx_TJ hT e6
    replace H := H h6 e6 hT6
    refine vx_aload_n (n := 0) (q := 26) (by decide +kernel) rfl ?_
    refine vx_getR (b := 665) (idx := 133) (kd := 9) (s := 64) (fin := true) (q := 29) (by decide +kernel) (vx_Tk hT6 (by decide +kernel)) (vx_Tr hT6 (kd := 9) (by decide +kernel) (by decide +kernel) (by decide +kernel)) ?_
    refine vx_iload_n (n := 2) (q := 30) (by decide +kernel) rfl ?_
    refine vx_aload_n (n := 0) (q := 31) (by decide +kernel) rfl ?_
    refine vx_getR (b := 668) (idx := 142) (kd := 9) (s := 73) (fin := true) (q := 34) (by decide +kernel) (vx_Tk hT6 (by decide +kernel)) (vx_Tr hT6 (kd := 9) (by decide +kernel) (by decide +kernel) (by decide +kernel)) ?_
    refine vx_bipush (n := 9) (q := 36) (by decide +kernel) ?_
    refine vx_iload_n (n := 1) (q := 37) (by decide +kernel) rfl ?_
    refine vx_imul (q := 38) (by decide +kernel) ?_
    refine vx_iload_n (n := 2) (q := 39) (by decide +kernel) rfl ?_
    refine vx_iadd (q := 40) (by decide +kernel) ?_
    obtain ⟨k7, H⟩ := H
    refine vx_laload (z := 36) (q := 41) (by decide +kernel) (vx_Tk hT6 (by decide +kernel)) (vx_Tz hT6 (by decide +kernel)) (vx_ix k7 (by decide)) ?_
    obtain ⟨k8, H⟩ := H
    refine vx_lastore (z := 9) (q := 42) (by decide +kernel) (vx_Tk hT6 (by decide +kernel)) (vx_Tz hT6 (by decide +kernel)) (vx_ix k8 (by decide)) (fun h9 e9 => ?_)
    have hT9 := vx_TK hT6 e9
    replace H := H h9 e9 hT9
    refine vx_iinc (n := 2) (m := 1) (x := v2) (q := 45) (lv' := [some (.ref 625), some (.int (vx_i v1)), some (.int (vx_i (v2 + 1)))]) (by decide +kernel) rfl rfl ?_
    refine vx_goto (off := (-43)) (q := 48) (t := 2) (by decide +kernel) ?_
    exact H
-- RuleHouseModel.ways(I)V
theorem vg_79 {d : Nat} {h : ve_H} {P : ve_H → Prop} {x1 : Int} (hT : vx_T 625 672 h) (H : (∀ h1, h1 = vx_sJ h 625 42 x1 → vx_T 625 672 h1 → (∀ h2, h2 = vx_sJ h1 625 70 0 → vx_T 625 672 h2 → vx_W (d + 1) 79 15 [some (.ref 625), some (.int (vx_i x1)), some (.int (vx_i (6 * x1)))] [] h2 (vx_RV P)))) : vx_CV (d + 1) 79 [.ref 625, .int (vx_i x1)] h P := by
  refine vx_enter (ml := 3) (by decide +kernel) ?_
  show vx_W _ _ 0 [some (.ref 625), some (.int (vx_i x1)), none] [] h _
  refine vx_aload_n (n := 0) (q := 1) (by decide +kernel) rfl ?_
  refine vx_iload_n (n := 1) (q := 2) (by decide +kernel) rfl ?_
  refine vx_putI (idx := 223) (kd := 9) (s := 42) (fin := false) (q := 5) (by decide +kernel) (vx_Tk hT (by decide +kernel)) (fun h1 e1 => ?_)
  have hT1 := vx_TJ hT e1
  replace H := H h1 e1 hT1
  refine vx_aload_n (n := 0) (q := 6) (by decide +kernel) rfl ?_
  refine vx_iconst (n := 0) (q := 7) (by decide +kernel) ?_
  refine vx_putI (idx := 404) (kd := 9) (s := 70) (fin := false) (q := 10) (by decide +kernel) (vx_Tk hT1 (by decide +kernel)) (fun h2 e2 => ?_)
  have hT2 := vx_TJ hT1 e2
  replace H := H h2 e2 hT2
  refine vx_bipush (n := 6) (q := 12) (by decide +kernel) ?_
  refine vx_iload_n (n := 1) (q := 13) (by decide +kernel) rfl ?_
  refine vx_imul (q := 14) (by decide +kernel) ?_
  refine vx_istore_n (n := 2) (q := 15) (lv' := [some (.ref 625), some (.int (vx_i x1)), some (.int (vx_i (6 * x1)))]) (by decide +kernel) rfl ?_
  exact H
theorem vg_79_15 {d : Nat} {h : ve_H} {P : ve_H → Prop} {v1 : Int} {v2 : Int} (hT : vx_T 625 672 h) (H : (0 ≤ v1 ∧ v1 < 61) ∧ (vx_rI v2) ∧ (vx_rI ((6 * v1) + (vx_J h 641 v1.toNat))) ∧ ((((6 * v1) + (vx_J h 641 v1.toNat)) ≤ v2 → vx_W (d + 1) 79 70 [some (.ref 625), some (.int (vx_i v1)), some (.int (vx_i 0))] [] h (vx_RV P)) ∧ (v2 < ((6 * v1) + (vx_J h 641 v1.toNat)) → (0 ≤ v2 ∧ v2 < 366) ∧ (((vx_J h 643 v2.toNat) = 0 → (0 ≤ (vx_J h 625 70) ∧ (vx_J h 625 70) < 3) ∧ (∀ h8, h8 = vx_sJ h 666 (vx_J h 625 70).toNat v2 → vx_T 625 672 h8 → (∀ h9, h9 = vx_sJ h8 625 70 ((vx_J h8 625 70) + 1) → vx_T 625 672 h9 → vx_W (d + 1) 79 15 [some (.ref 625), some (.int (vx_i v1)), some (.int (vx_i (v2 + 1)))] [] h9 (vx_RV P)))) ∧ ((vx_J h 643 v2.toNat) ≠ 0 → vx_W (d + 1) 79 15 [some (.ref 625), some (.int (vx_i v1)), some (.int (vx_i (v2 + 1)))] [] h (vx_RV P)))))) : vx_W (d + 1) 79 15 [some (.ref 625), some (.int (vx_i v1)), some (.int (vx_i v2))] [] h (vx_RV P) := by
  refine vx_iload_n (n := 2) (q := 16) (by decide +kernel) rfl ?_
  refine vx_bipush (n := 6) (q := 18) (by decide +kernel) ?_
  refine vx_iload_n (n := 1) (q := 19) (by decide +kernel) rfl ?_
  refine vx_imul (q := 20) (by decide +kernel) ?_
  refine vx_aload_n (n := 0) (q := 21) (by decide +kernel) rfl ?_
  refine vx_getR (b := 641) (idx := 56) (kd := 9) (s := 22) (fin := true) (q := 24) (by decide +kernel) (vx_Tk hT (by decide +kernel)) (vx_Tr hT (kd := 9) (by decide +kernel) (by decide +kernel) (by decide +kernel)) ?_
  refine vx_iload_n (n := 1) (q := 25) (by decide +kernel) rfl ?_
  obtain ⟨k1, H⟩ := H
  refine vx_iaload (z := 61) (q := 26) (by decide +kernel) (vx_Tk hT (by decide +kernel)) (vx_Tz hT (by decide +kernel)) (vx_ix k1 (by decide)) ?_
  refine vx_iadd (q := 27) (by decide +kernel) ?_
  obtain ⟨k2, H⟩ := H
  obtain ⟨k3, H⟩ := H
  refine vx_icmp_ge (off := 41) (q := 30) (t := 68) (by decide +kernel) k2 k3 (fun c4 => ?_) (fun c4 => ?_)
  · replace H := H.1 c4
    refine vx_iconst (n := 0) (q := 69) (by decide +kernel) ?_
    refine vx_istore_n (n := 2) (q := 70) (lv' := [some (.ref 625), some (.int (vx_i v1)), some (.int (vx_i 0))]) (by decide +kernel) rfl ?_
    exact H
  · replace H := H.2 c4
    refine vx_aload_n (n := 0) (q := 31) (by decide +kernel) rfl ?_
    refine vx_getR (b := 643) (idx := 62) (kd := 9) (s := 24) (fin := true) (q := 34) (by decide +kernel) (vx_Tk hT (by decide +kernel)) (vx_Tr hT (kd := 9) (by decide +kernel) (by decide +kernel) (by decide +kernel)) ?_
    refine vx_iload_n (n := 2) (q := 35) (by decide +kernel) rfl ?_
    obtain ⟨k5, H⟩ := H
    refine vx_iaload (z := 366) (q := 36) (by decide +kernel) (vx_Tk hT (by decide +kernel)) (vx_Tz hT (by decide +kernel)) (vx_ix k5 (by decide)) ?_
    refine vx_if0_eq (off := 6) (q := 39) (t := 42) (by decide +kernel) (vx_rI_J h 643 v2.toNat) (fun c6 => ?_) (fun c6 => ?_)
    · replace H := H.1 c6
      refine vx_aload_n (n := 0) (q := 43) (by decide +kernel) rfl ?_
      refine vx_getR (b := 666) (idx := 136) (kd := 9) (s := 71) (fin := true) (q := 46) (by decide +kernel) (vx_Tk hT (by decide +kernel)) (vx_Tr hT (kd := 9) (by decide +kernel) (by decide +kernel) (by decide +kernel)) ?_
      refine vx_aload_n (n := 0) (q := 47) (by decide +kernel) rfl ?_
      refine vx_getI (idx := 404) (kd := 9) (s := 70) (fin := false) (q := 50) (by decide +kernel) (vx_Tk hT (by decide +kernel)) ?_
      refine vx_iload_n (n := 2) (q := 51) (by decide +kernel) rfl ?_
      obtain ⟨k7, H⟩ := H
      refine vx_iastore (z := 3) (q := 52) (by decide +kernel) (vx_Tk hT (by decide +kernel)) (vx_Tz hT (by decide +kernel)) (vx_ix k7 (by decide)) (fun h8 e8 => ?_)
      have hT8 := vx_TJ hT e8
      replace H := H h8 e8 hT8
      refine vx_aload_n (n := 0) (q := 53) (by decide +kernel) rfl ?_
      refine vx_dupR (q := 54) (by decide +kernel) ?_
      refine vx_getI (idx := 404) (kd := 9) (s := 70) (fin := false) (q := 57) (by decide +kernel) (vx_Tk hT8 (by decide +kernel)) ?_
      refine vx_iconst (n := 1) (q := 58) (by decide +kernel) ?_
      refine vx_iadd (q := 59) (by decide +kernel) ?_
      refine vx_putI (idx := 404) (kd := 9) (s := 70) (fin := false) (q := 62) (by decide +kernel) (vx_Tk hT8 (by decide +kernel)) (fun h9 e9 => ?_)
      have hT9 := vx_TJ hT8 e9
      replace H := H h9 e9 hT9
      refine vx_iinc (n := 2) (m := 1) (x := v2) (q := 65) (lv' := [some (.ref 625), some (.int (vx_i v1)), some (.int (vx_i (v2 + 1)))]) (by decide +kernel) rfl rfl ?_
      refine vx_goto (off := (-50)) (q := 68) (t := 15) (by decide +kernel) ?_
      exact H
    · replace H := H.2 c6
      refine vx_goto (off := 23) (q := 42) (t := 62) (by decide +kernel) ?_
      refine vx_iinc (n := 2) (m := 1) (x := v2) (q := 65) (lv' := [some (.ref 625), some (.int (vx_i v1)), some (.int (vx_i (v2 + 1)))]) (by decide +kernel) rfl rfl ?_
      refine vx_goto (off := (-50)) (q := 68) (t := 15) (by decide +kernel) ?_
      exact H
theorem vg_79_70 {d : Nat} {h : ve_H} {P : ve_H → Prop} {v1 : Int} {v2 : Int} (hT : vx_T 625 672 h) (H : (vx_rI v2) ∧ ((9 ≤ v2 → vx_CI d 74 [.ref 625] h (fun r3 h3 => vx_T 625 672 h3 → ((r3 = 0 → P h3) ∧ (r3 ≠ 0 → vx_CV d 80 [.ref 625, .int (vx_i 0)] h3 (fun h5 => vx_T 625 672 h5 → P h5))))) ∧ (v2 < 9 → (0 ≤ v2 ∧ v2 < 9) ∧ (∀ h7, h7 = vx_sJ h 664 v2.toNat 0 → vx_T 625 672 h7 → vx_W (d + 1) 79 70 [some (.ref 625), some (.int (vx_i v1)), some (.int (vx_i (v2 + 1)))] [] h7 (vx_RV P))))) : vx_W (d + 1) 79 70 [some (.ref 625), some (.int (vx_i v1)), some (.int (vx_i v2))] [] h (vx_RV P) := by
  refine vx_iload_n (n := 2) (q := 71) (by decide +kernel) rfl ?_
  refine vx_bipush (n := 9) (q := 73) (by decide +kernel) ?_
  obtain ⟨k1, H⟩ := H
  refine vx_icmp_ge (off := 16) (q := 76) (t := 89) (by decide +kernel) k1 (by decide) (fun c2 => ?_) (fun c2 => ?_)
  · replace H := H.1 c2
    refine vx_aload_n (n := 0) (q := 90) (by decide +kernel) rfl ?_
    refine vx_callI (i := .invokevirtual 391) (how := 3) (cm := 74) (np := 1) (q := 93) (args := [.ref 625]) (rest := []) (by decide +kernel) rfl rfl rfl (vx_w2 (w := 1) (ml := 2) rfl (by decide +kernel)) (vx_rcv (kd := 9) (vx_Tk hT (by decide +kernel)) (by decide +kernel)) H (fun r3 h3 hr3 hs3 H => ?_)
    have hT3 := vx_Tsh hT hs3
    replace H := H hT3
    refine vx_if0_eq (off := 8) (q := 96) (t := 101) (by decide +kernel) hr3 (fun c4 => ?_) (fun c4 => ?_)
    · replace H := H.1 c4
      refine vx_retV (q := 102) (by decide +kernel) ?_
      exact H
    · replace H := H.2 c4
      refine vx_aload_n (n := 0) (q := 97) (by decide +kernel) rfl ?_
      refine vx_iconst (n := 0) (q := 98) (by decide +kernel) ?_
      refine vx_callV (i := .invokevirtual 407) (how := 3) (cm := 80) (np := 2) (q := 101) (args := [.ref 625, .int (vx_i 0)]) (rest := []) (by decide +kernel) rfl rfl rfl (vx_w2 (w := 2) (ml := 3) rfl (by decide +kernel)) (vx_rcv (kd := 9) (vx_Tk hT3 (by decide +kernel)) (by decide +kernel)) H (fun h5 hs5 H => ?_)
      have hT5 := vx_Tsh hT3 hs5
      replace H := H hT5
      refine vx_retV (q := 102) (by decide +kernel) ?_
      exact H
  · replace H := H.2 c2
    refine vx_aload_n (n := 0) (q := 77) (by decide +kernel) rfl ?_
    refine vx_getR (b := 664) (idx := 130) (kd := 9) (s := 63) (fin := true) (q := 80) (by decide +kernel) (vx_Tk hT (by decide +kernel)) (vx_Tr hT (kd := 9) (by decide +kernel) (by decide +kernel) (by decide +kernel)) ?_
    refine vx_iload_n (n := 2) (q := 81) (by decide +kernel) rfl ?_
    refine vx_iconst (n := 0) (q := 82) (by decide +kernel) ?_
    obtain ⟨k6, H⟩ := H
    refine vx_zastore (z := 9) (q := 83) (by decide +kernel) (vx_Tk hT (by decide +kernel)) (vx_Tz hT (by decide +kernel)) (vx_ix k6 (by decide)) (Or.inl rfl) (fun h7 e7 => ?_)
    have hT7 := vx_TJ hT e7
    replace H := H h7 e7 hT7
    refine vx_iinc (n := 2) (m := 1) (x := v2) (q := 86) (lv' := [some (.ref 625), some (.int (vx_i v1)), some (.int (vx_i (v2 + 1)))]) (by decide +kernel) rfl rfl ?_
    refine vx_goto (off := (-16)) (q := 89) (t := 70) (by decide +kernel) ?_
    exact H
-- RuleHouseModel.way(I)V
theorem vg_80 {d : Nat} {h : ve_H} {P : ve_H → Prop} {x1 : Int} (hT : vx_T 625 672 h) (H : vx_CV d 77 [.ref 625, .int (vx_i x1)] h (fun h1 => vx_T 625 672 h1 → (vx_rI x1) ∧ ((x1 ≠ (vx_J h1 625 70) → vx_W (d + 1) 80 32 [some (.ref 625), some (.int (vx_i x1)), some (.int (vx_i 0))] [] h1 (vx_RV P)) ∧ (x1 = (vx_J h1 625 70) → vx_CI d 76 [.ref 625] h1 (fun r4 h4 => vx_T 625 672 h4 → ((r4 = 0 → vx_CV d 78 [.ref 625, .int (vx_i x1)] h4 (fun h6 => vx_T 625 672 h6 → P h6)) ∧ (r4 ≠ 0 → vx_CV d 81 [.ref 625] h4 (fun h7 => vx_T 625 672 h7 → vx_CV d 78 [.ref 625, .int (vx_i x1)] h7 (fun h8 => vx_T 625 672 h8 → P h8))))))))) : vx_CV (d + 1) 80 [.ref 625, .int (vx_i x1)] h P := by
  refine vx_enter (ml := 3) (by decide +kernel) ?_
  show vx_W _ _ 0 [some (.ref 625), some (.int (vx_i x1)), none] [] h _
  refine vx_aload_n (n := 0) (q := 1) (by decide +kernel) rfl ?_
  refine vx_iload_n (n := 1) (q := 2) (by decide +kernel) rfl ?_
  refine vx_callV (i := .invokevirtual 410) (how := 3) (cm := 77) (np := 2) (q := 5) (args := [.ref 625, .int (vx_i x1)]) (rest := []) (by decide +kernel) rfl rfl rfl (vx_w2 (w := 2) (ml := 3) rfl (by decide +kernel)) (vx_rcv (kd := 9) (vx_Tk hT (by decide +kernel)) (by decide +kernel)) H (fun h1 hs1 H => ?_)
  have hT1 := vx_Tsh hT hs1
  replace H := H hT1
  refine vx_iload_n (n := 1) (q := 6) (by decide +kernel) rfl ?_
  refine vx_aload_n (n := 0) (q := 7) (by decide +kernel) rfl ?_
  refine vx_getI (idx := 404) (kd := 9) (s := 70) (fin := false) (q := 10) (by decide +kernel) (vx_Tk hT1 (by decide +kernel)) ?_
  obtain ⟨k2, H⟩ := H
  refine vx_icmp_ne (off := 20) (q := 13) (t := 30) (by decide +kernel) k2 (vx_rI_J h1 625 70) (fun c3 => ?_) (fun c3 => ?_)
  · replace H := H.1 c3
    refine vx_iconst (n := 0) (q := 31) (by decide +kernel) ?_
    refine vx_istore_n (n := 2) (q := 32) (lv' := [some (.ref 625), some (.int (vx_i x1)), some (.int (vx_i 0))]) (by decide +kernel) rfl ?_
    exact H
  · replace H := H.2 c3
    refine vx_aload_n (n := 0) (q := 14) (by decide +kernel) rfl ?_
    refine vx_callI (i := .invokevirtual 413) (how := 3) (cm := 76) (np := 1) (q := 17) (args := [.ref 625]) (rest := []) (by decide +kernel) rfl rfl rfl (vx_w2 (w := 1) (ml := 4) rfl (by decide +kernel)) (vx_rcv (kd := 9) (vx_Tk hT1 (by decide +kernel)) (by decide +kernel)) H (fun r4 h4 hr4 hs4 H => ?_)
    have hT4 := vx_Tsh hT1 hs4
    replace H := H hT4
    refine vx_if0_eq (off := 7) (q := 20) (t := 24) (by decide +kernel) hr4 (fun c5 => ?_) (fun c5 => ?_)
    · replace H := H.1 c5
      refine vx_aload_n (n := 0) (q := 25) (by decide +kernel) rfl ?_
      refine vx_iload_n (n := 1) (q := 26) (by decide +kernel) rfl ?_
      refine vx_callV (i := .invokevirtual 419) (how := 3) (cm := 78) (np := 2) (q := 29) (args := [.ref 625, .int (vx_i x1)]) (rest := []) (by decide +kernel) rfl rfl rfl (vx_w2 (w := 2) (ml := 3) rfl (by decide +kernel)) (vx_rcv (kd := 9) (vx_Tk hT4 (by decide +kernel)) (by decide +kernel)) H (fun h6 hs6 H => ?_)
      have hT6 := vx_Tsh hT4 hs6
      replace H := H hT6
      refine vx_retV (q := 30) (by decide +kernel) ?_
      exact H
    · replace H := H.2 c5
      refine vx_aload_n (n := 0) (q := 21) (by decide +kernel) rfl ?_
      refine vx_callV (i := .invokevirtual 416) (how := 3) (cm := 81) (np := 1) (q := 24) (args := [.ref 625]) (rest := []) (by decide +kernel) rfl rfl rfl (vx_w2 (w := 1) (ml := 1) rfl (by decide +kernel)) (vx_rcv (kd := 9) (vx_Tk hT4 (by decide +kernel)) (by decide +kernel)) H (fun h7 hs7 H => ?_)
      have hT7 := vx_Tsh hT4 hs7
      replace H := H hT7
      refine vx_aload_n (n := 0) (q := 25) (by decide +kernel) rfl ?_
      refine vx_iload_n (n := 1) (q := 26) (by decide +kernel) rfl ?_
      refine vx_callV (i := .invokevirtual 419) (how := 3) (cm := 78) (np := 2) (q := 29) (args := [.ref 625, .int (vx_i x1)]) (rest := []) (by decide +kernel) rfl rfl rfl (vx_w2 (w := 2) (ml := 3) rfl (by decide +kernel)) (vx_rcv (kd := 9) (vx_Tk hT7 (by decide +kernel)) (by decide +kernel)) H (fun h8 hs8 H => ?_)
      have hT8 := vx_Tsh hT7 hs8
      replace H := H hT8
      refine vx_retV (q := 30) (by decide +kernel) ?_
      exact H
theorem vg_80_32 {d : Nat} {h : ve_H} {P : ve_H → Prop} {v1 : Int} {v2 : Int} (hT : vx_T 625 672 h) (H : (vx_rI v2) ∧ (((vx_J h 625 65) ≤ v2 → P h) ∧ (v2 < (vx_J h 625 65) → (((vx_J h 625 68) ≠ 0 → P h) ∧ ((vx_J h 625 68) = 0 → (0 ≤ v1 ∧ v1 < 3) ∧ vx_CI d 70 [.ref 625, .int (vx_i v2), .int (vx_i (vx_J h 666 v1.toNat))] h (fun r5 h5 => vx_T 625 672 h5 → ((r5 ≠ 0 → (0 ≤ v1 ∧ v1 < 3) ∧ vx_CI d 71 [.ref 625, .int (vx_i v2), .int (vx_i (vx_J h5 666 v1.toNat))] h5 (fun r8 h8 => vx_T 625 672 h8 → ((r8 = 0 → vx_CV d 78 [.ref 625, .int (vx_i v1)] h8 (fun h10 => vx_T 625 672 h10 → vx_W (d + 1) 80 32 [some (.ref 625), some (.int (vx_i v1)), some (.int (vx_i (v2 + 1)))] [] h10 (vx_RV P))) ∧ (r8 ≠ 0 → vx_CI d 74 [.ref 625] h8 (fun r11 h11 => vx_T 625 672 h11 → ((r11 = 0 → vx_CV d 78 [.ref 625, .int (vx_i v1)] h11 (fun h13 => vx_T 625 672 h13 → vx_W (d + 1) 80 32 [some (.ref 625), some (.int (vx_i v1)), some (.int (vx_i (v2 + 1)))] [] h13 (vx_RV P))) ∧ (r11 ≠ 0 → vx_CV d 80 [.ref 625, .int (vx_i (v1 + 1))] h11 (fun h14 => vx_T 625 672 h14 → vx_CV d 78 [.ref 625, .int (vx_i v1)] h14 (fun h15 => vx_T 625 672 h15 → vx_W (d + 1) 80 32 [some (.ref 625), some (.int (vx_i v1)), some (.int (vx_i (v2 + 1)))] [] h15 (vx_RV P)))))))))) ∧ (r5 = 0 → vx_W (d + 1) 80 32 [some (.ref 625), some (.int (vx_i v1)), some (.int (vx_i (v2 + 1)))] [] h5 (vx_RV P))))))))) : vx_W (d + 1) 80 32 [some (.ref 625), some (.int (vx_i v1)), some (.int (vx_i v2))] [] h (vx_RV P) := by
  refine vx_iload_n (n := 2) (q := 33) (by decide +kernel) rfl ?_
  refine vx_aload_n (n := 0) (q := 34) (by decide +kernel) rfl ?_
  refine vx_getI (idx := 398) (kd := 9) (s := 65) (fin := false) (q := 37) (by decide +kernel) (vx_Tk hT (by decide +kernel)) ?_
  obtain ⟨k1, H⟩ := H
  refine vx_icmp_ge (off := 66) (q := 40) (t := 103) (by decide +kernel) k1 (vx_rI_J h 625 65) (fun c2 => ?_) (fun c2 => ?_)
  · replace H := H.1 c2
    refine vx_retV (q := 104) (by decide +kernel) ?_
    exact H
  · replace H := H.2 c2
    refine vx_aload_n (n := 0) (q := 41) (by decide +kernel) rfl ?_
    refine vx_getZ (idx := 422) (kd := 9) (s := 68) (fin := false) (q := 44) (by decide +kernel) (vx_Tk hT (by decide +kernel)) ?_
    refine vx_if0_ne (off := 59) (q := 47) (t := 103) (by decide +kernel) (vx_rI_J h 625 68) (fun c3 => ?_) (fun c3 => ?_)
    · replace H := H.1 c3
      refine vx_retV (q := 104) (by decide +kernel) ?_
      exact H
    · replace H := H.2 c3
      refine vx_aload_n (n := 0) (q := 48) (by decide +kernel) rfl ?_
      refine vx_iload_n (n := 2) (q := 49) (by decide +kernel) rfl ?_
      refine vx_aload_n (n := 0) (q := 50) (by decide +kernel) rfl ?_
      refine vx_getR (b := 666) (idx := 136) (kd := 9) (s := 71) (fin := true) (q := 53) (by decide +kernel) (vx_Tk hT (by decide +kernel)) (vx_Tr hT (kd := 9) (by decide +kernel) (by decide +kernel) (by decide +kernel)) ?_
      refine vx_iload_n (n := 1) (q := 54) (by decide +kernel) rfl ?_
      obtain ⟨k4, H⟩ := H
      refine vx_iaload (z := 3) (q := 55) (by decide +kernel) (vx_Tk hT (by decide +kernel)) (vx_Tz hT (by decide +kernel)) (vx_ix k4 (by decide)) ?_
      refine vx_callI (i := .invokevirtual 401) (how := 3) (cm := 70) (np := 3) (q := 58) (args := [.ref 625, .int (vx_i v2), .int (vx_i (vx_J h 666 v1.toNat))]) (rest := []) (by decide +kernel) rfl rfl rfl (vx_w2 (w := 3) (ml := 5) rfl (by decide +kernel)) (vx_rcv (kd := 9) (vx_Tk hT (by decide +kernel)) (by decide +kernel)) H (fun r5 h5 hr5 hs5 H => ?_)
      have hT5 := vx_Tsh hT hs5
      replace H := H hT5
      refine vx_if0_ne (off := 6) (q := 61) (t := 64) (by decide +kernel) hr5 (fun c6 => ?_) (fun c6 => ?_)
      · replace H := H.1 c6
        refine vx_aload_n (n := 0) (q := 65) (by decide +kernel) rfl ?_
        refine vx_iload_n (n := 2) (q := 66) (by decide +kernel) rfl ?_
        refine vx_aload_n (n := 0) (q := 67) (by decide +kernel) rfl ?_
        refine vx_getR (b := 666) (idx := 136) (kd := 9) (s := 71) (fin := true) (q := 70) (by decide +kernel) (vx_Tk hT5 (by decide +kernel)) (vx_Tr hT5 (kd := 9) (by decide +kernel) (by decide +kernel) (by decide +kernel)) ?_
        refine vx_iload_n (n := 1) (q := 71) (by decide +kernel) rfl ?_
        obtain ⟨k7, H⟩ := H
        refine vx_iaload (z := 3) (q := 72) (by decide +kernel) (vx_Tk hT5 (by decide +kernel)) (vx_Tz hT5 (by decide +kernel)) (vx_ix k7 (by decide)) ?_
        refine vx_callI (i := .invokevirtual 425) (how := 3) (cm := 71) (np := 3) (q := 75) (args := [.ref 625, .int (vx_i v2), .int (vx_i (vx_J h5 666 v1.toNat))]) (rest := []) (by decide +kernel) rfl rfl rfl (vx_w2 (w := 3) (ml := 5) rfl (by decide +kernel)) (vx_rcv (kd := 9) (vx_Tk hT5 (by decide +kernel)) (by decide +kernel)) H (fun r8 h8 hr8 hs8 H => ?_)
        have hT8 := vx_Tsh hT5 hs8
        replace H := H hT8
        refine vx_if0_eq (off := 17) (q := 78) (t := 92) (by decide +kernel) hr8 (fun c9 => ?_) (fun c9 => ?_)
        · replace H := H.1 c9
          refine vx_aload_n (n := 0) (q := 93) (by decide +kernel) rfl ?_
          refine vx_iload_n (n := 1) (q := 94) (by decide +kernel) rfl ?_
          refine vx_callV (i := .invokevirtual 419) (how := 3) (cm := 78) (np := 2) (q := 97) (args := [.ref 625, .int (vx_i v1)]) (rest := []) (by decide +kernel) rfl rfl rfl (vx_w2 (w := 2) (ml := 3) rfl (by decide +kernel)) (vx_rcv (kd := 9) (vx_Tk hT8 (by decide +kernel)) (by decide +kernel)) H (fun h10 hs10 H => ?_)
          have hT10 := vx_Tsh hT8 hs10
          replace H := H hT10
          refine vx_iinc (n := 2) (m := 1) (x := v2) (q := 100) (lv' := [some (.ref 625), some (.int (vx_i v1)), some (.int (vx_i (v2 + 1)))]) (by decide +kernel) rfl rfl ?_
          refine vx_goto (off := (-68)) (q := 103) (t := 32) (by decide +kernel) ?_
          exact H
        · replace H := H.2 c9
          refine vx_aload_n (n := 0) (q := 79) (by decide +kernel) rfl ?_
          refine vx_callI (i := .invokevirtual 391) (how := 3) (cm := 74) (np := 1) (q := 82) (args := [.ref 625]) (rest := []) (by decide +kernel) rfl rfl rfl (vx_w2 (w := 1) (ml := 2) rfl (by decide +kernel)) (vx_rcv (kd := 9) (vx_Tk hT8 (by decide +kernel)) (by decide +kernel)) H (fun r11 h11 hr11 hs11 H => ?_)
          have hT11 := vx_Tsh hT8 hs11
          replace H := H hT11
          refine vx_if0_eq (off := 10) (q := 85) (t := 92) (by decide +kernel) hr11 (fun c12 => ?_) (fun c12 => ?_)
          · replace H := H.1 c12
            refine vx_aload_n (n := 0) (q := 93) (by decide +kernel) rfl ?_
            refine vx_iload_n (n := 1) (q := 94) (by decide +kernel) rfl ?_
            refine vx_callV (i := .invokevirtual 419) (how := 3) (cm := 78) (np := 2) (q := 97) (args := [.ref 625, .int (vx_i v1)]) (rest := []) (by decide +kernel) rfl rfl rfl (vx_w2 (w := 2) (ml := 3) rfl (by decide +kernel)) (vx_rcv (kd := 9) (vx_Tk hT11 (by decide +kernel)) (by decide +kernel)) H (fun h13 hs13 H => ?_)
            have hT13 := vx_Tsh hT11 hs13
            replace H := H hT13
            refine vx_iinc (n := 2) (m := 1) (x := v2) (q := 100) (lv' := [some (.ref 625), some (.int (vx_i v1)), some (.int (vx_i (v2 + 1)))]) (by decide +kernel) rfl rfl ?_
            refine vx_goto (off := (-68)) (q := 103) (t := 32) (by decide +kernel) ?_
            exact H
          · replace H := H.2 c12
            refine vx_aload_n (n := 0) (q := 86) (by decide +kernel) rfl ?_
            refine vx_iload_n (n := 1) (q := 87) (by decide +kernel) rfl ?_
            refine vx_iconst (n := 1) (q := 88) (by decide +kernel) ?_
            refine vx_iadd (q := 89) (by decide +kernel) ?_
            refine vx_callV (i := .invokevirtual 407) (how := 3) (cm := 80) (np := 2) (q := 92) (args := [.ref 625, .int (vx_i (v1 + 1))]) (rest := []) (by decide +kernel) rfl rfl rfl (vx_w2 (w := 2) (ml := 3) rfl (by decide +kernel)) (vx_rcv (kd := 9) (vx_Tk hT11 (by decide +kernel)) (by decide +kernel)) H (fun h14 hs14 H => ?_)
            have hT14 := vx_Tsh hT11 hs14
            replace H := H hT14
            refine vx_aload_n (n := 0) (q := 93) (by decide +kernel) rfl ?_
            refine vx_iload_n (n := 1) (q := 94) (by decide +kernel) rfl ?_
            refine vx_callV (i := .invokevirtual 419) (how := 3) (cm := 78) (np := 2) (q := 97) (args := [.ref 625, .int (vx_i v1)]) (rest := []) (by decide +kernel) rfl rfl rfl (vx_w2 (w := 2) (ml := 3) rfl (by decide +kernel)) (vx_rcv (kd := 9) (vx_Tk hT14 (by decide +kernel)) (by decide +kernel)) H (fun h15 hs15 H => ?_)
            have hT15 := vx_Tsh hT14 hs15
            replace H := H hT15
            refine vx_iinc (n := 2) (m := 1) (x := v2) (q := 100) (lv' := [some (.ref 625), some (.int (vx_i v1)), some (.int (vx_i (v2 + 1)))]) (by decide +kernel) rfl rfl ?_
            refine vx_goto (off := (-68)) (q := 103) (t := 32) (by decide +kernel) ?_
            exact H
      · replace H := H.2 c6
        refine vx_goto (off := 36) (q := 64) (t := 97) (by decide +kernel) ?_
        refine vx_iinc (n := 2) (m := 1) (x := v2) (q := 100) (lv' := [some (.ref 625), some (.int (vx_i v1)), some (.int (vx_i (v2 + 1)))]) (by decide +kernel) rfl rfl ?_
        refine vx_goto (off := (-68)) (q := 103) (t := 32) (by decide +kernel) ?_
        exact H
-- RuleHouseModel.makes()V
theorem vg_81 {d : Nat} {h : ve_H} {P : ve_H → Prop}  (hT : vx_T 625 672 h) (H : (((vx_J h 625 66) ≠ 0 → (((vx_J h 625 66) ≠ 1 → vx_CV d 92 [.ref 625] h (fun h3 => vx_T 625 672 h3 → P h3)) ∧ ((vx_J h 625 66) = 1 → vx_CV d 86 [.ref 625] h (fun h4 => vx_T 625 672 h4 → P h4)))) ∧ ((vx_J h 625 66) = 0 → vx_CV d 85 [.ref 625] h (fun h5 => vx_T 625 672 h5 → P h5)))) : vx_CV (d + 1) 81 [.ref 625] h P := by
  refine vx_enter (ml := 1) (by decide +kernel) ?_
  show vx_W _ _ 0 [some (.ref 625)] [] h _
  refine vx_aload_n (n := 0) (q := 1) (by decide +kernel) rfl ?_
  refine vx_getI (idx := 428) (kd := 9) (s := 66) (fin := false) (q := 4) (by decide +kernel) (vx_Tk hT (by decide +kernel)) ?_
  refine vx_if0_ne (off := 10) (q := 7) (t := 14) (by decide +kernel) (vx_rI_J h 625 66) (fun c1 => ?_) (fun c1 => ?_)
  · replace H := H.1 c1
    refine vx_aload_n (n := 0) (q := 15) (by decide +kernel) rfl ?_
    refine vx_getI (idx := 428) (kd := 9) (s := 66) (fin := false) (q := 18) (by decide +kernel) (vx_Tk hT (by decide +kernel)) ?_
    refine vx_iconst (n := 1) (q := 19) (by decide +kernel) ?_
    refine vx_icmp_ne (off := 10) (q := 22) (t := 29) (by decide +kernel) (vx_rI_J h 625 66) (by decide) (fun c2 => ?_) (fun c2 => ?_)
    · replace H := H.1 c2
      refine vx_aload_n (n := 0) (q := 30) (by decide +kernel) rfl ?_
      refine vx_callV (i := .invokevirtual 437) (how := 3) (cm := 92) (np := 1) (q := 33) (args := [.ref 625]) (rest := []) (by decide +kernel) rfl rfl rfl (vx_w2 (w := 1) (ml := 5) rfl (by decide +kernel)) (vx_rcv (kd := 9) (vx_Tk hT (by decide +kernel)) (by decide +kernel)) H (fun h3 hs3 H => ?_)
      have hT3 := vx_Tsh hT hs3
      replace H := H hT3
      refine vx_retV (q := 34) (by decide +kernel) ?_
      exact H
    · replace H := H.2 c2
      refine vx_aload_n (n := 0) (q := 23) (by decide +kernel) rfl ?_
      refine vx_callV (i := .invokevirtual 434) (how := 3) (cm := 86) (np := 1) (q := 26) (args := [.ref 625]) (rest := []) (by decide +kernel) rfl rfl rfl (vx_w2 (w := 1) (ml := 8) rfl (by decide +kernel)) (vx_rcv (kd := 9) (vx_Tk hT (by decide +kernel)) (by decide +kernel)) H (fun h4 hs4 H => ?_)
      have hT4 := vx_Tsh hT hs4
      replace H := H hT4
      refine vx_goto (off := 7) (q := 29) (t := 33) (by decide +kernel) ?_
      refine vx_retV (q := 34) (by decide +kernel) ?_
      exact H
  · replace H := H.2 c1
    refine vx_aload_n (n := 0) (q := 8) (by decide +kernel) rfl ?_
    refine vx_callV (i := .invokevirtual 431) (how := 3) (cm := 85) (np := 1) (q := 11) (args := [.ref 625]) (rest := []) (by decide +kernel) rfl rfl rfl (vx_w2 (w := 1) (ml := 2) rfl (by decide +kernel)) (vx_rcv (kd := 9) (vx_Tk hT (by decide +kernel)) (by decide +kernel)) H (fun h5 hs5 H => ?_)
    have hT5 := vx_Tsh hT hs5
    replace H := H hT5
    refine vx_goto (off := 22) (q := 14) (t := 33) (by decide +kernel) ?_
    refine vx_retV (q := 34) (by decide +kernel) ?_
    exact H
-- RuleHouseModel.headOf(I)J
theorem vg_82 {d : Nat} {h : ve_H} {P : Int → ve_H → Prop} {x1 : Int} (hT : vx_T 625 672 h) (H : (0 ≤ ((4 * (vx_J h 625 42)) + x1) ∧ ((4 * (vx_J h 625 42)) + x1) < 244) ∧ (((vx_J h 637 ((4 * (vx_J h 625 42)) + x1).toNat) ≠ 0 → (0 ≤ ((4 * (vx_J h 625 42)) + x1) ∧ ((4 * (vx_J h 625 42)) + x1) < 244) ∧ (0 ≤ (vx_K h 638 ((4 * (vx_J h 625 42)) + x1).toNat) ∧ (vx_K h 638 ((4 * (vx_J h 625 42)) + x1).toNat) < 9) ∧ P (vx_K h 665 (vx_K h 638 ((4 * (vx_J h 625 42)) + x1).toNat).toNat) h) ∧ ((vx_J h 637 ((4 * (vx_J h 625 42)) + x1).toNat) = 0 → (0 ≤ ((4 * (vx_J h 625 42)) + x1) ∧ ((4 * (vx_J h 625 42)) + x1) < 244) ∧ P (vx_K h 638 ((4 * (vx_J h 625 42)) + x1).toNat) h))) : vx_CL d 82 [.ref 625, .int (vx_i x1)] h P := by
  refine vx_enter (ml := 2) (by decide +kernel) ?_
  show vx_W _ _ 0 [some (.ref 625), some (.int (vx_i x1))] [] h _
  refine vx_aload_n (n := 0) (q := 1) (by decide +kernel) rfl ?_
  refine vx_getR (b := 637) (idx := 44) (kd := 9) (s := 18) (fin := true) (q := 4) (by decide +kernel) (vx_Tk hT (by decide +kernel)) (vx_Tr hT (kd := 9) (by decide +kernel) (by decide +kernel) (by decide +kernel)) ?_
  refine vx_iconst (n := 4) (q := 5) (by decide +kernel) ?_
  refine vx_aload_n (n := 0) (q := 6) (by decide +kernel) rfl ?_
  refine vx_getI (idx := 223) (kd := 9) (s := 42) (fin := false) (q := 9) (by decide +kernel) (vx_Tk hT (by decide +kernel)) ?_
  refine vx_imul (q := 10) (by decide +kernel) ?_
  refine vx_iload_n (n := 1) (q := 11) (by decide +kernel) rfl ?_
  refine vx_iadd (q := 12) (by decide +kernel) ?_
  obtain ⟨k1, H⟩ := H
  refine vx_iaload (z := 244) (q := 13) (by decide +kernel) (vx_Tk hT (by decide +kernel)) (vx_Tz hT (by decide +kernel)) (vx_ix k1 (by decide)) ?_
  refine vx_if0_ne (off := 19) (q := 16) (t := 32) (by decide +kernel) (vx_rI_J h 637 ((4 * (vx_J h 625 42)) + x1).toNat) (fun c2 => ?_) (fun c2 => ?_)
  · replace H := H.1 c2
    refine vx_aload_n (n := 0) (q := 33) (by decide +kernel) rfl ?_
    refine vx_getR (b := 665) (idx := 133) (kd := 9) (s := 64) (fin := true) (q := 36) (by decide +kernel) (vx_Tk hT (by decide +kernel)) (vx_Tr hT (kd := 9) (by decide +kernel) (by decide +kernel) (by decide +kernel)) ?_
    refine vx_aload_n (n := 0) (q := 37) (by decide +kernel) rfl ?_
    refine vx_getR (b := 638) (idx := 47) (kd := 9) (s := 19) (fin := true) (q := 40) (by decide +kernel) (vx_Tk hT (by decide +kernel)) (vx_Tr hT (kd := 9) (by decide +kernel) (by decide +kernel) (by decide +kernel)) ?_
    refine vx_iconst (n := 4) (q := 41) (by decide +kernel) ?_
    refine vx_aload_n (n := 0) (q := 42) (by decide +kernel) rfl ?_
    refine vx_getI (idx := 223) (kd := 9) (s := 42) (fin := false) (q := 45) (by decide +kernel) (vx_Tk hT (by decide +kernel)) ?_
    refine vx_imul (q := 46) (by decide +kernel) ?_
    refine vx_iload_n (n := 1) (q := 47) (by decide +kernel) rfl ?_
    refine vx_iadd (q := 48) (by decide +kernel) ?_
    obtain ⟨k3, H⟩ := H
    refine vx_laload (z := 244) (q := 49) (by decide +kernel) (vx_Tk hT (by decide +kernel)) (vx_Tz hT (by decide +kernel)) (vx_ix k3 (by decide)) ?_
    refine vx_l2i (q := 50) (by decide +kernel) ?_
    obtain ⟨k4, H⟩ := H
    refine vx_laload (z := 9) (q := 51) (by decide +kernel) (vx_Tk hT (by decide +kernel)) (vx_Tz hT (by decide +kernel)) (vx_ix k4 (by decide)) ?_
    refine vx_retL (q := 52) (by decide +kernel) (vx_rL_K h 665 (vx_K h 638 ((4 * (vx_J h 625 42)) + x1).toNat).toNat) ?_
    exact H
  · replace H := H.2 c2
    refine vx_aload_n (n := 0) (q := 17) (by decide +kernel) rfl ?_
    refine vx_getR (b := 638) (idx := 47) (kd := 9) (s := 19) (fin := true) (q := 20) (by decide +kernel) (vx_Tk hT (by decide +kernel)) (vx_Tr hT (kd := 9) (by decide +kernel) (by decide +kernel) (by decide +kernel)) ?_
    refine vx_iconst (n := 4) (q := 21) (by decide +kernel) ?_
    refine vx_aload_n (n := 0) (q := 22) (by decide +kernel) rfl ?_
    refine vx_getI (idx := 223) (kd := 9) (s := 42) (fin := false) (q := 25) (by decide +kernel) (vx_Tk hT (by decide +kernel)) ?_
    refine vx_imul (q := 26) (by decide +kernel) ?_
    refine vx_iload_n (n := 1) (q := 27) (by decide +kernel) rfl ?_
    refine vx_iadd (q := 28) (by decide +kernel) ?_
    obtain ⟨k5, H⟩ := H
    refine vx_laload (z := 244) (q := 29) (by decide +kernel) (vx_Tk hT (by decide +kernel)) (vx_Tz hT (by decide +kernel)) (vx_ix k5 (by decide)) ?_
    refine vx_goto (off := 22) (q := 32) (t := 51) (by decide +kernel) ?_
    refine vx_retL (q := 52) (by decide +kernel) (vx_rL_K h 638 ((4 * (vx_J h 625 42)) + x1).toNat) ?_
    exact H
-- RuleHouseModel.sizeOf(I)I
theorem vg_83 {d : Nat} {h : ve_H} {P : Int → ve_H → Prop} {x1 : Int} (hT : vx_T 625 672 h) (H : (0 ≤ ((16 * (vx_J h 625 11)) + x1) ∧ ((16 * (vx_J h 625 11)) + x1) < 32) ∧ P (vx_J h 633 ((16 * (vx_J h 625 11)) + x1).toNat) h) : vx_CI d 83 [.ref 625, .int (vx_i x1)] h P := by
  refine vx_enter (ml := 2) (by decide +kernel) ?_
  show vx_W _ _ 0 [some (.ref 625), some (.int (vx_i x1))] [] h _
  refine vx_aload_n (n := 0) (q := 1) (by decide +kernel) rfl ?_
  refine vx_getR (b := 633) (idx := 32) (kd := 9) (s := 14) (fin := true) (q := 4) (by decide +kernel) (vx_Tk hT (by decide +kernel)) (vx_Tr hT (kd := 9) (by decide +kernel) (by decide +kernel) (by decide +kernel)) ?_
  refine vx_bipush (n := 16) (q := 6) (by decide +kernel) ?_
  refine vx_aload_n (n := 0) (q := 7) (by decide +kernel) rfl ?_
  refine vx_getI (idx := 342) (kd := 9) (s := 11) (fin := false) (q := 10) (by decide +kernel) (vx_Tk hT (by decide +kernel)) ?_
  refine vx_imul (q := 11) (by decide +kernel) ?_
  refine vx_iload_n (n := 1) (q := 12) (by decide +kernel) rfl ?_
  refine vx_iadd (q := 13) (by decide +kernel) ?_
  obtain ⟨k1, H⟩ := H
  refine vx_iaload (z := 32) (q := 14) (by decide +kernel) (vx_Tk hT (by decide +kernel)) (vx_Tz hT (by decide +kernel)) (vx_ix k1 (by decide)) ?_
  refine vx_retI (q := 15) (by decide +kernel) (vx_rI_J h 633 ((16 * (vx_J h 625 11)) + x1).toNat) ?_
  exact H
-- RuleHouseModel.come(I)V
theorem vg_84 {d : Nat} {h : ve_H} {P : ve_H → Prop} {x1 : Int} (hT : vx_T 625 672 h) (H : vx_W (d + 1) 84 2 [some (.ref 625), some (.int (vx_i x1)), some (.int (vx_i 0)), none, none] [] h (vx_RV P)) : vx_CV (d + 1) 84 [.ref 625, .int (vx_i x1)] h P := by
  refine vx_enter (ml := 5) (by decide +kernel) ?_
  show vx_W _ _ 0 [some (.ref 625), some (.int (vx_i x1)), none, none, none] [] h _
  refine vx_iconst (n := 0) (q := 1) (by decide +kernel) ?_
  refine vx_istore_n (n := 2) (q := 2) (lv' := [some (.ref 625), some (.int (vx_i x1)), some (.int (vx_i 0)), none, none]) (by decide +kernel) rfl ?_
  exact H
theorem vg_84_2 {d : Nat} {h : ve_H} {P : ve_H → Prop} {v1 : Int} {v2 : Int} {v3 : Option Value} {v4 : Option Value} (hT : vx_T 625 672 h) (H : (vx_rI v2) ∧ (((vx_J h 625 32) ≤ v2 → (0 ≤ (vx_J h 625 32) ∧ (vx_J h 625 32) < 260) ∧ (∀ h4, h4 = vx_sJ h 650 (vx_J h 625 32).toNat v1 → vx_T 625 672 h4 → (0 ≤ (vx_J h4 625 32) ∧ (vx_J h4 625 32) < 260) ∧ (∀ h6, h6 = vx_sJ h4 651 (vx_J h4 625 32).toNat (vx_J h4 625 67) → vx_T 625 672 h6 → vx_W (d + 1) 84 113 [some (.ref 625), some (.int (vx_i v1)), some (.int (vx_i 0)), v3, v4] [] h6 (vx_RV P)))) ∧ (v2 < (vx_J h 625 32) → (0 ≤ v2 ∧ v2 < 260) ∧ (vx_rI v1) ∧ (((vx_J h 650 v2.toNat) ≠ v1 → vx_W (d + 1) 84 29 [some (.ref 625), some (.int (vx_i v1)), some (.int (vx_i v2)), some (.int (vx_i 0)), some (.int (vx_i 0))] [] h (vx_RV P)) ∧ ((vx_J h 650 v2.toNat) = v1 → vx_W (d + 1) 84 29 [some (.ref 625), some (.int (vx_i v1)), some (.int (vx_i v2)), some (.int (vx_i 1)), some (.int (vx_i 0))] [] h (vx_RV P)))))) : vx_W (d + 1) 84 2 [some (.ref 625), some (.int (vx_i v1)), some (.int (vx_i v2)), v3, v4] [] h (vx_RV P) := by
  refine vx_iload_n (n := 2) (q := 3) (by decide +kernel) rfl ?_
  refine vx_aload_n (n := 0) (q := 4) (by decide +kernel) rfl ?_
  refine vx_getI (idx := 357) (kd := 9) (s := 32) (fin := false) (q := 7) (by decide +kernel) (vx_Tk hT (by decide +kernel)) ?_
  obtain ⟨k1, H⟩ := H
  refine vx_icmp_ge (off := 81) (q := 10) (t := 88) (by decide +kernel) k1 (vx_rI_J h 625 32) (fun c2 => ?_) (fun c2 => ?_)
  · replace H := H.1 c2
    refine vx_aload_n (n := 0) (q := 89) (by decide +kernel) rfl ?_
    refine vx_getR (b := 650) (idx := 87) (kd := 9) (s := 33) (fin := true) (q := 92) (by decide +kernel) (vx_Tk hT (by decide +kernel)) (vx_Tr hT (kd := 9) (by decide +kernel) (by decide +kernel) (by decide +kernel)) ?_
    refine vx_aload_n (n := 0) (q := 93) (by decide +kernel) rfl ?_
    refine vx_getI (idx := 357) (kd := 9) (s := 32) (fin := false) (q := 96) (by decide +kernel) (vx_Tk hT (by decide +kernel)) ?_
    refine vx_iload_n (n := 1) (q := 97) (by decide +kernel) rfl ?_
    obtain ⟨k3, H⟩ := H
    refine vx_iastore (z := 260) (q := 98) (by decide +kernel) (vx_Tk hT (by decide +kernel)) (vx_Tz hT (by decide +kernel)) (vx_ix k3 (by decide)) (fun h4 e4 => ?_)
    have hT4 := vx_TJ hT e4
    replace H := H h4 e4 hT4
    refine vx_aload_n (n := 0) (q := 99) (by decide +kernel) rfl ?_
    refine vx_getR (b := 651) (idx := 90) (kd := 9) (s := 34) (fin := true) (q := 102) (by decide +kernel) (vx_Tk hT4 (by decide +kernel)) (vx_Tr hT4 (kd := 9) (by decide +kernel) (by decide +kernel) (by decide +kernel)) ?_
    refine vx_aload_n (n := 0) (q := 103) (by decide +kernel) rfl ?_
    refine vx_getI (idx := 357) (kd := 9) (s := 32) (fin := false) (q := 106) (by decide +kernel) (vx_Tk hT4 (by decide +kernel)) ?_
    refine vx_aload_n (n := 0) (q := 107) (by decide +kernel) rfl ?_
    refine vx_getI (idx := 443) (kd := 9) (s := 67) (fin := false) (q := 110) (by decide +kernel) (vx_Tk hT4 (by decide +kernel)) ?_
    obtain ⟨k5, H⟩ := H
    refine vx_iastore (z := 260) (q := 111) (by decide +kernel) (vx_Tk hT4 (by decide +kernel)) (vx_Tz hT4 (by decide +kernel)) (vx_ix k5 (by decide)) (fun h6 e6 => ?_)
    have hT6 := vx_TJ hT4 e6
    replace H := H h6 e6 hT6
    refine vx_iconst (n := 0) (q := 112) (by decide +kernel) ?_
    refine vx_istore_n (n := 2) (q := 113) (lv' := [some (.ref 625), some (.int (vx_i v1)), some (.int (vx_i 0)), v3, v4]) (by decide +kernel) rfl ?_
    exact H
  · replace H := H.2 c2
    refine vx_aload_n (n := 0) (q := 11) (by decide +kernel) rfl ?_
    refine vx_getR (b := 650) (idx := 87) (kd := 9) (s := 33) (fin := true) (q := 14) (by decide +kernel) (vx_Tk hT (by decide +kernel)) (vx_Tr hT (kd := 9) (by decide +kernel) (by decide +kernel) (by decide +kernel)) ?_
    refine vx_iload_n (n := 2) (q := 15) (by decide +kernel) rfl ?_
    obtain ⟨k7, H⟩ := H
    refine vx_iaload (z := 260) (q := 16) (by decide +kernel) (vx_Tk hT (by decide +kernel)) (vx_Tz hT (by decide +kernel)) (vx_ix k7 (by decide)) ?_
    refine vx_iload_n (n := 1) (q := 17) (by decide +kernel) rfl ?_
    obtain ⟨k8, H⟩ := H
    refine vx_icmp_ne (off := 7) (q := 20) (t := 24) (by decide +kernel) (vx_rI_J h 650 v2.toNat) k8 (fun c9 => ?_) (fun c9 => ?_)
    · replace H := H.1 c9
      refine vx_iconst (n := 0) (q := 25) (by decide +kernel) ?_
      refine vx_istore_n (n := 3) (q := 26) (lv' := [some (.ref 625), some (.int (vx_i v1)), some (.int (vx_i v2)), some (.int (vx_i 0)), v4]) (by decide +kernel) rfl ?_
      refine vx_iconst (n := 0) (q := 27) (by decide +kernel) ?_
      refine vx_istore (n := 4) (q := 29) (lv' := [some (.ref 625), some (.int (vx_i v1)), some (.int (vx_i v2)), some (.int (vx_i 0)), some (.int (vx_i 0))]) (by decide +kernel) rfl ?_
      exact H
    · replace H := H.2 c9
      refine vx_iconst (n := 1) (q := 21) (by decide +kernel) ?_
      refine vx_goto (off := 4) (q := 24) (t := 25) (by decide +kernel) ?_
      refine vx_istore_n (n := 3) (q := 26) (lv' := [some (.ref 625), some (.int (vx_i v1)), some (.int (vx_i v2)), some (.int (vx_i 1)), v4]) (by decide +kernel) rfl ?_
      refine vx_iconst (n := 0) (q := 27) (by decide +kernel) ?_
      refine vx_istore (n := 4) (q := 29) (lv' := [some (.ref 625), some (.int (vx_i v1)), some (.int (vx_i v2)), some (.int (vx_i 1)), some (.int (vx_i 0))]) (by decide +kernel) rfl ?_
      exact H
theorem vg_84_29 {d : Nat} {h : ve_H} {P : ve_H → Prop} {v1 : Int} {v2 : Int} {v3 : Int} {v4 : Int} (hT : vx_T 625 672 h) (H : (vx_rI v3) ∧ ((v3 = 0 → vx_W (d + 1) 84 2 [some (.ref 625), some (.int (vx_i v1)), some (.int (vx_i (v2 + 1))), some (.int (vx_i v3)), some (.int (vx_i v4))] [] h (vx_RV P)) ∧ (v3 ≠ 0 → vx_CI d 83 [.ref 625, .int (vx_i v1)] h (fun r3 h3 => vx_T 625 672 h3 → (vx_rI v4) ∧ ((r3 ≤ v4 → P h3) ∧ (v4 < r3 → (0 ≤ ((4 * v2) + v4) ∧ ((4 * v2) + v4) < 1040) ∧ (0 ≤ v4 ∧ v4 < 4) ∧ (((vx_K h3 652 ((4 * v2) + v4).toNat) ≠ (vx_K h3 669 v4.toNat) → vx_W (d + 1) 84 29 [some (.ref 625), some (.int (vx_i v1)), some (.int (vx_i v2)), some (.int (vx_i 0)), some (.int (vx_i (v4 + 1)))] [] h3 (vx_RV P)) ∧ ((vx_K h3 652 ((4 * v2) + v4).toNat) = (vx_K h3 669 v4.toNat) → vx_W (d + 1) 84 29 [some (.ref 625), some (.int (vx_i v1)), some (.int (vx_i v2)), some (.int (vx_i 1)), some (.int (vx_i (v4 + 1)))] [] h3 (vx_RV P))))))))) : vx_W (d + 1) 84 29 [some (.ref 625), some (.int (vx_i v1)), some (.int (vx_i v2)), some (.int (vx_i v3)), some (.int (vx_i v4))] [] h (vx_RV P) := by
  refine vx_iload_n (n := 3) (q := 30) (by decide +kernel) rfl ?_
  obtain ⟨k1, H⟩ := H
  refine vx_if0_eq (off := 47) (q := 33) (t := 77) (by decide +kernel) k1 (fun c2 => ?_) (fun c2 => ?_)
  · replace H := H.1 c2
    refine vx_iload_n (n := 3) (q := 78) (by decide +kernel) rfl ?_
    refine vx_if0_eq (off := 4) (q := 81) (t := 82) (by decide +kernel) k1 (fun _ => ?_) (fun c => absurd c (by omega))
    refine vx_iinc (n := 2) (m := 1) (x := v2) (q := 85) (lv' := [some (.ref 625), some (.int (vx_i v1)), some (.int (vx_i (v2 + 1))), some (.int (vx_i v3)), some (.int (vx_i v4))]) (by decide +kernel) rfl rfl ?_
    refine vx_goto (off := (-83)) (q := 88) (t := 2) (by decide +kernel) ?_
    exact H
  · replace H := H.2 c2
    refine vx_iload (n := 4) (q := 35) (by decide +kernel) rfl ?_
    refine vx_aload_n (n := 0) (q := 36) (by decide +kernel) rfl ?_
    refine vx_iload_n (n := 1) (q := 37) (by decide +kernel) rfl ?_
    refine vx_callI (i := .invokevirtual 440) (how := 3) (cm := 83) (np := 2) (q := 40) (args := [.ref 625, .int (vx_i v1)]) (rest := [.int (vx_i v4)]) (by decide +kernel) rfl rfl rfl (vx_w2 (w := 2) (ml := 2) rfl (by decide +kernel)) (vx_rcv (kd := 9) (vx_Tk hT (by decide +kernel)) (by decide +kernel)) H (fun r3 h3 hr3 hs3 H => ?_)
    have hT3 := vx_Tsh hT hs3
    replace H := H hT3
    obtain ⟨k4, H⟩ := H
    refine vx_icmp_ge (off := 37) (q := 43) (t := 77) (by decide +kernel) k4 hr3 (fun c5 => ?_) (fun c5 => ?_)
    · replace H := H.1 c5
      refine vx_iload_n (n := 3) (q := 78) (by decide +kernel) rfl ?_
      refine vx_if0_eq (off := 4) (q := 81) (t := 82) (by decide +kernel) k1 (fun c => absurd c (by omega)) (fun _ => ?_)
      refine vx_retV (q := 82) (by decide +kernel) ?_
      exact H
    · replace H := H.2 c5
      refine vx_aload_n (n := 0) (q := 44) (by decide +kernel) rfl ?_
      refine vx_getR (b := 652) (idx := 93) (kd := 9) (s := 35) (fin := true) (q := 47) (by decide +kernel) (vx_Tk hT3 (by decide +kernel)) (vx_Tr hT3 (kd := 9) (by decide +kernel) (by decide +kernel) (by decide +kernel)) ?_
      refine vx_iconst (n := 4) (q := 48) (by decide +kernel) ?_
      refine vx_iload_n (n := 2) (q := 49) (by decide +kernel) rfl ?_
      refine vx_imul (q := 50) (by decide +kernel) ?_
      refine vx_iload (n := 4) (q := 52) (by decide +kernel) rfl ?_
      refine vx_iadd (q := 53) (by decide +kernel) ?_
      obtain ⟨k6, H⟩ := H
      refine vx_laload (z := 1040) (q := 54) (by decide +kernel) (vx_Tk hT3 (by decide +kernel)) (vx_Tz hT3 (by decide +kernel)) (vx_ix k6 (by decide)) ?_
      refine vx_aload_n (n := 0) (q := 55) (by decide +kernel) rfl ?_
      refine vx_getR (b := 669) (idx := 145) (kd := 9) (s := 74) (fin := true) (q := 58) (by decide +kernel) (vx_Tk hT3 (by decide +kernel)) (vx_Tr hT3 (kd := 9) (by decide +kernel) (by decide +kernel) (by decide +kernel)) ?_
      refine vx_iload (n := 4) (q := 60) (by decide +kernel) rfl ?_
      obtain ⟨k7, H⟩ := H
      refine vx_laload (z := 4) (q := 61) (by decide +kernel) (vx_Tk hT3 (by decide +kernel)) (vx_Tz hT3 (by decide +kernel)) (vx_ix k7 (by decide)) ?_
      refine vx_lc_ne (off := 7) (p := 62) (q := 65) (t := 69) (by decide +kernel) (vx_rL_K h3 652 ((4 * v2) + v4).toNat) (vx_rL_K h3 669 v4.toNat) (fun c8 => ?_) (fun c8 => ?_)
      · replace H := H.1 c8
        refine vx_iconst (n := 0) (q := 70) (by decide +kernel) ?_
        refine vx_istore_n (n := 3) (q := 71) (lv' := [some (.ref 625), some (.int (vx_i v1)), some (.int (vx_i v2)), some (.int (vx_i 0)), some (.int (vx_i v4))]) (by decide +kernel) rfl ?_
        refine vx_iinc (n := 4) (m := 1) (x := v4) (q := 74) (lv' := [some (.ref 625), some (.int (vx_i v1)), some (.int (vx_i v2)), some (.int (vx_i 0)), some (.int (vx_i (v4 + 1)))]) (by decide +kernel) rfl rfl ?_
        refine vx_goto (off := (-45)) (q := 77) (t := 29) (by decide +kernel) ?_
        exact H
      · replace H := H.2 c8
        refine vx_iconst (n := 1) (q := 66) (by decide +kernel) ?_
        refine vx_goto (off := 4) (q := 69) (t := 70) (by decide +kernel) ?_
        refine vx_istore_n (n := 3) (q := 71) (lv' := [some (.ref 625), some (.int (vx_i v1)), some (.int (vx_i v2)), some (.int (vx_i 1)), some (.int (vx_i v4))]) (by decide +kernel) rfl ?_
        refine vx_iinc (n := 4) (m := 1) (x := v4) (q := 74) (lv' := [some (.ref 625), some (.int (vx_i v1)), some (.int (vx_i v2)), some (.int (vx_i 1)), some (.int (vx_i (v4 + 1)))]) (by decide +kernel) rfl rfl ?_
        refine vx_goto (off := (-45)) (q := 77) (t := 29) (by decide +kernel) ?_
        exact H
theorem vg_84_113 {d : Nat} {h : ve_H} {P : ve_H → Prop} {v1 : Int} {v2 : Int} {v3 : Option Value} {v4 : Option Value} (hT : vx_T 625 672 h) (H : (vx_rI v2) ∧ ((4 ≤ v2 → (∀ h3, h3 = vx_sJ h 625 32 ((vx_J h 625 32) + 1) → vx_T 625 672 h3 → (((vx_J h3 625 32) ≤ 200 → (∀ h5, h5 = vx_sJ h3 625 68 0 → vx_T 625 672 h5 → P h5)) ∧ (200 < (vx_J h3 625 32) → (∀ h6, h6 = vx_sJ h3 625 68 1 → vx_T 625 672 h6 → P h6))))) ∧ (v2 < 4 → vx_CI d 83 [.ref 625, .int (vx_i v1)] h (fun r7 h7 => vx_T 625 672 h7 → ((r7 ≤ v2 → (0 ≤ ((4 * (vx_J h 625 32)) + v2) ∧ ((4 * (vx_J h 625 32)) + v2) < 1040) ∧ (∀ h10, h10 = vx_sK h7 652 ((4 * (vx_J h 625 32)) + v2).toNat 0 → vx_T 625 672 h10 → vx_W (d + 1) 84 113 [some (.ref 625), some (.int (vx_i v1)), some (.int (vx_i (v2 + 1))), v3, v4] [] h10 (vx_RV P))) ∧ (v2 < r7 → (0 ≤ v2 ∧ v2 < 4) ∧ (0 ≤ ((4 * (vx_J h 625 32)) + v2) ∧ ((4 * (vx_J h 625 32)) + v2) < 1040) ∧ (∀ h13, h13 = vx_sK h7 652 ((4 * (vx_J h 625 32)) + v2).toNat (vx_K h7 669 v2.toNat) → vx_T 625 672 h13 → vx_W (d + 1) 84 113 [some (.ref 625), some (.int (vx_i v1)), some (.int (vx_i (v2 + 1))), v3, v4] [] h13 (vx_RV P)))))))) : vx_W (d + 1) 84 113 [some (.ref 625), some (.int (vx_i v1)), some (.int (vx_i v2)), v3, v4] [] h (vx_RV P) := by
  refine vx_iload_n (n := 2) (q := 114) (by decide +kernel) rfl ?_
  refine vx_iconst (n := 4) (q := 115) (by decide +kernel) ?_
  obtain ⟨k1, H⟩ := H
  refine vx_icmp_ge (off := 41) (q := 118) (t := 156) (by decide +kernel) k1 (by decide) (fun c2 => ?_) (fun c2 => ?_)
  · replace H := H.1 c2
    refine vx_aload_n (n := 0) (q := 157) (by decide +kernel) rfl ?_
    refine vx_dupR (q := 158) (by decide +kernel) ?_
    refine vx_getI (idx := 357) (kd := 9) (s := 32) (fin := false) (q := 161) (by decide +kernel) (vx_Tk hT (by decide +kernel)) ?_
    refine vx_iconst (n := 1) (q := 162) (by decide +kernel) ?_
    refine vx_iadd (q := 163) (by decide +kernel) ?_
    refine vx_putI (idx := 357) (kd := 9) (s := 32) (fin := false) (q := 166) (by decide +kernel) (vx_Tk hT (by decide +kernel)) (fun h3 e3 => ?_)
    have hT3 := vx_TJ hT e3
    replace H := H h3 e3 hT3
    refine vx_aload_n (n := 0) (q := 167) (by decide +kernel) rfl ?_
    refine vx_aload_n (n := 0) (q := 168) (by decide +kernel) rfl ?_
    refine vx_getI (idx := 357) (kd := 9) (s := 32) (fin := false) (q := 171) (by decide +kernel) (vx_Tk hT3 (by decide +kernel)) ?_
    refine vx_sipush (n := 200) (q := 174) (by decide +kernel) ?_
    refine vx_icmp_le (off := 7) (q := 177) (t := 181) (by decide +kernel) (vx_rI_J h3 625 32) (by decide) (fun c4 => ?_) (fun c4 => ?_)
    · replace H := H.1 c4
      refine vx_iconst (n := 0) (q := 182) (by decide +kernel) ?_
      refine vx_putZ (idx := 422) (kd := 9) (s := 68) (fin := false) (q := 185) (by decide +kernel) (vx_Tk hT3 (by decide +kernel)) (Or.inl rfl) (fun h5 e5 => ?_)
      have hT5 := vx_TJ hT3 e5
      replace H := H h5 e5 hT5
      refine vx_retV (q := 186) (by decide +kernel) ?_
      exact H
    · replace H := H.2 c4
      refine vx_iconst (n := 1) (q := 178) (by decide +kernel) ?_
      refine vx_goto (off := 4) (q := 181) (t := 182) (by decide +kernel) ?_
      refine vx_putZ (idx := 422) (kd := 9) (s := 68) (fin := false) (q := 185) (by decide +kernel) (vx_Tk hT3 (by decide +kernel)) (Or.inr rfl) (fun h6 e6 => ?_)
      have hT6 := vx_TJ hT3 e6
      replace H := H h6 e6 hT6
      refine vx_retV (q := 186) (by decide +kernel) ?_
      exact H
  · replace H := H.2 c2
    refine vx_aload_n (n := 0) (q := 119) (by decide +kernel) rfl ?_
    refine vx_getR (b := 652) (idx := 93) (kd := 9) (s := 35) (fin := true) (q := 122) (by decide +kernel) (vx_Tk hT (by decide +kernel)) (vx_Tr hT (kd := 9) (by decide +kernel) (by decide +kernel) (by decide +kernel)) ?_
    refine vx_iconst (n := 4) (q := 123) (by decide +kernel) ?_
    refine vx_aload_n (n := 0) (q := 124) (by decide +kernel) rfl ?_
    refine vx_getI (idx := 357) (kd := 9) (s := 32) (fin := false) (q := 127) (by decide +kernel) (vx_Tk hT (by decide +kernel)) ?_
    refine vx_imul (q := 128) (by decide +kernel) ?_
    refine vx_iload_n (n := 2) (q := 129) (by decide +kernel) rfl ?_
    refine vx_iadd (q := 130) (by decide +kernel) ?_
    refine vx_iload_n (n := 2) (q := 131) (by decide +kernel) rfl ?_
    refine vx_aload_n (n := 0) (q := 132) (by decide +kernel) rfl ?_
    refine vx_iload_n (n := 1) (q := 133) (by decide +kernel) rfl ?_
    refine vx_callI (i := .invokevirtual 440) (how := 3) (cm := 83) (np := 2) (q := 136) (args := [.ref 625, .int (vx_i v1)]) (rest := [.int (vx_i v2), .int (vx_i ((4 * (vx_J h 625 32)) + v2)), .ref 652]) (by decide +kernel) rfl rfl rfl (vx_w2 (w := 2) (ml := 2) rfl (by decide +kernel)) (vx_rcv (kd := 9) (vx_Tk hT (by decide +kernel)) (by decide +kernel)) H (fun r7 h7 hr7 hs7 H => ?_)
    have hT7 := vx_Tsh hT hs7
    replace H := H hT7
    refine vx_icmp_ge (off := 12) (q := 139) (t := 148) (by decide +kernel) k1 hr7 (fun c8 => ?_) (fun c8 => ?_)
    · replace H := H.1 c8
      refine vx_lconst (n := 0) (m := 0) (q := 149) (by decide +kernel) ?_
      obtain ⟨k9, H⟩ := H
      refine vx_lastore (z := 1040) (q := 150) (by decide +kernel) (vx_Tk hT7 (by decide +kernel)) (vx_Tz hT7 (by decide +kernel)) (vx_ix k9 (by decide)) (fun h10 e10 => ?_)
      have hT10 := vx_TK hT7 e10
      replace H := H h10 e10 hT10
      refine vx_iinc (n := 2) (m := 1) (x := v2) (q := 153) (lv' := [some (.ref 625), some (.int (vx_i v1)), some (.int (vx_i (v2 + 1))), v3, v4]) (by decide +kernel) rfl rfl ?_
      refine vx_goto (off := (-40)) (q := 156) (t := 113) (by decide +kernel) ?_
      exact H
    · replace H := H.2 c8
      refine vx_aload_n (n := 0) (q := 140) (by decide +kernel) rfl ?_
      refine vx_getR (b := 669) (idx := 145) (kd := 9) (s := 74) (fin := true) (q := 143) (by decide +kernel) (vx_Tk hT7 (by decide +kernel)) (vx_Tr hT7 (kd := 9) (by decide +kernel) (by decide +kernel) (by decide +kernel)) ?_
      refine vx_iload_n (n := 2) (q := 144) (by decide +kernel) rfl ?_
      obtain ⟨k11, H⟩ := H
      refine vx_laload (z := 4) (q := 145) (by decide +kernel) (vx_Tk hT7 (by decide +kernel)) (vx_Tz hT7 (by decide +kernel)) (vx_ix k11 (by decide)) ?_
      refine vx_goto (off := 4) (q := 148) (t := 149) (by decide +kernel) ?_
      obtain ⟨k12, H⟩ := H
      refine vx_lastore (z := 1040) (q := 150) (by decide +kernel) (vx_Tk hT7 (by decide +kernel)) (vx_Tz hT7 (by decide +kernel)) (vx_ix k12 (by decide)) (fun h13 e13 => ?_)
      have hT13 := vx_TK hT7 e13
      replace H := H h13 e13 hT13
      refine vx_iinc (n := 2) (m := 1) (x := v2) (q := 153) (lv' := [some (.ref 625), some (.int (vx_i v1)), some (.int (vx_i (v2 + 1))), v3, v4]) (by decide +kernel) rfl rfl ?_
      refine vx_goto (off := (-40)) (q := 156) (t := 113) (by decide +kernel) ?_
      exact H
-- RuleHouseModel.makeTuple()V
theorem vg_85 {d : Nat} {h : ve_H} {P : ve_H → Prop}  (hT : vx_T 625 672 h) (H : vx_W (d + 1) 85 2 [some (.ref 625), some (.int (vx_i 0))] [] h (vx_RV P)) : vx_CV (d + 1) 85 [.ref 625] h P := by
  refine vx_enter (ml := 2) (by decide +kernel) ?_
  show vx_W _ _ 0 [some (.ref 625), none] [] h _
  refine vx_iconst (n := 0) (q := 1) (by decide +kernel) ?_
  refine vx_istore_n (n := 1) (q := 2) (lv' := [some (.ref 625), some (.int (vx_i 0))]) (by decide +kernel) rfl ?_
  exact H
theorem vg_85_2 {d : Nat} {h : ve_H} {P : ve_H → Prop} {v1 : Int} (hT : vx_T 625 672 h) (H : (0 ≤ (vx_J h 625 42) ∧ (vx_J h 625 42) < 61) ∧ vx_CI d 83 [.ref 625, .int (vx_i (vx_J h 636 (vx_J h 625 42).toNat))] h (fun r2 h2 => vx_T 625 672 h2 → (vx_rI v1) ∧ ((r2 ≤ v1 → (0 ≤ (vx_J h2 625 42) ∧ (vx_J h2 625 42) < 61) ∧ vx_CV d 84 [.ref 625, .int (vx_i (vx_J h2 636 (vx_J h2 625 42).toNat))] h2 (fun h6 => vx_T 625 672 h6 → P h6)) ∧ (v1 < r2 → vx_CL d 82 [.ref 625, .int (vx_i v1)] h2 (fun r7 h7 => vx_T 625 672 h7 → (0 ≤ v1 ∧ v1 < 4) ∧ (∀ h9, h9 = vx_sK h7 669 v1.toNat r7 → vx_T 625 672 h9 → vx_W (d + 1) 85 2 [some (.ref 625), some (.int (vx_i (v1 + 1)))] [] h9 (vx_RV P))))))) : vx_W (d + 1) 85 2 [some (.ref 625), some (.int (vx_i v1))] [] h (vx_RV P) := by
  refine vx_iload_n (n := 1) (q := 3) (by decide +kernel) rfl ?_
  refine vx_aload_n (n := 0) (q := 4) (by decide +kernel) rfl ?_
  refine vx_aload_n (n := 0) (q := 5) (by decide +kernel) rfl ?_
  refine vx_getR (b := 636) (idx := 41) (kd := 9) (s := 17) (fin := true) (q := 8) (by decide +kernel) (vx_Tk hT (by decide +kernel)) (vx_Tr hT (kd := 9) (by decide +kernel) (by decide +kernel) (by decide +kernel)) ?_
  refine vx_aload_n (n := 0) (q := 9) (by decide +kernel) rfl ?_
  refine vx_getI (idx := 223) (kd := 9) (s := 42) (fin := false) (q := 12) (by decide +kernel) (vx_Tk hT (by decide +kernel)) ?_
  obtain ⟨k1, H⟩ := H
  refine vx_iaload (z := 61) (q := 13) (by decide +kernel) (vx_Tk hT (by decide +kernel)) (vx_Tz hT (by decide +kernel)) (vx_ix k1 (by decide)) ?_
  refine vx_callI (i := .invokevirtual 440) (how := 3) (cm := 83) (np := 2) (q := 16) (args := [.ref 625, .int (vx_i (vx_J h 636 (vx_J h 625 42).toNat))]) (rest := [.int (vx_i v1)]) (by decide +kernel) rfl rfl rfl (vx_w2 (w := 2) (ml := 2) rfl (by decide +kernel)) (vx_rcv (kd := 9) (vx_Tk hT (by decide +kernel)) (by decide +kernel)) H (fun r2 h2 hr2 hs2 H => ?_)
  have hT2 := vx_Tsh hT hs2
  replace H := H hT2
  obtain ⟨k3, H⟩ := H
  refine vx_icmp_ge (off := 20) (q := 19) (t := 36) (by decide +kernel) k3 hr2 (fun c4 => ?_) (fun c4 => ?_)
  · replace H := H.1 c4
    refine vx_aload_n (n := 0) (q := 37) (by decide +kernel) rfl ?_
    refine vx_aload_n (n := 0) (q := 38) (by decide +kernel) rfl ?_
    refine vx_getR (b := 636) (idx := 41) (kd := 9) (s := 17) (fin := true) (q := 41) (by decide +kernel) (vx_Tk hT2 (by decide +kernel)) (vx_Tr hT2 (kd := 9) (by decide +kernel) (by decide +kernel) (by decide +kernel)) ?_
    refine vx_aload_n (n := 0) (q := 42) (by decide +kernel) rfl ?_
    refine vx_getI (idx := 223) (kd := 9) (s := 42) (fin := false) (q := 45) (by decide +kernel) (vx_Tk hT2 (by decide +kernel)) ?_
    obtain ⟨k5, H⟩ := H
    refine vx_iaload (z := 61) (q := 46) (by decide +kernel) (vx_Tk hT2 (by decide +kernel)) (vx_Tz hT2 (by decide +kernel)) (vx_ix k5 (by decide)) ?_
    refine vx_callV (i := .invokevirtual 450) (how := 3) (cm := 84) (np := 2) (q := 49) (args := [.ref 625, .int (vx_i (vx_J h2 636 (vx_J h2 625 42).toNat))]) (rest := []) (by decide +kernel) rfl rfl rfl (vx_w2 (w := 2) (ml := 5) rfl (by decide +kernel)) (vx_rcv (kd := 9) (vx_Tk hT2 (by decide +kernel)) (by decide +kernel)) H (fun h6 hs6 H => ?_)
    have hT6 := vx_Tsh hT2 hs6
    replace H := H hT6
    refine vx_retV (q := 50) (by decide +kernel) ?_
    exact H
  · replace H := H.2 c4
    refine vx_aload_n (n := 0) (q := 20) (by decide +kernel) rfl ?_
    refine vx_getR (b := 669) (idx := 145) (kd := 9) (s := 74) (fin := true) (q := 23) (by decide +kernel) (vx_Tk hT2 (by decide +kernel)) (vx_Tr hT2 (kd := 9) (by decide +kernel) (by decide +kernel) (by decide +kernel)) ?_
    refine vx_iload_n (n := 1) (q := 24) (by decide +kernel) rfl ?_
    refine vx_aload_n (n := 0) (q := 25) (by decide +kernel) rfl ?_
    refine vx_iload_n (n := 1) (q := 26) (by decide +kernel) rfl ?_
    refine vx_callL (i := .invokevirtual 446) (how := 3) (cm := 82) (np := 2) (q := 29) (args := [.ref 625, .int (vx_i v1)]) (rest := [.int (vx_i v1), .ref 669]) (by decide +kernel) rfl rfl rfl (vx_w2 (w := 2) (ml := 2) rfl (by decide +kernel)) (vx_rcv (kd := 9) (vx_Tk hT2 (by decide +kernel)) (by decide +kernel)) H (fun r7 h7 hr7 hs7 H => ?_)
    have hT7 := vx_Tsh hT2 hs7
    replace H := H hT7
    obtain ⟨k8, H⟩ := H
    refine vx_lastore (z := 4) (q := 30) (by decide +kernel) (vx_Tk hT7 (by decide +kernel)) (vx_Tz hT7 (by decide +kernel)) (vx_ix k8 (by decide)) (fun h9 e9 => ?_)
    have hT9 := vx_TK hT7 e9
    replace H := H h9 e9 hT9
    refine vx_iinc (n := 1) (m := 1) (x := v1) (q := 33) (lv' := [some (.ref 625), some (.int (vx_i (v1 + 1)))]) (by decide +kernel) rfl rfl ?_
    refine vx_goto (off := (-31)) (q := 36) (t := 2) (by decide +kernel) ?_
    exact H
-- RuleHouseModel.makeTotal()V
theorem vg_86 {d : Nat} {h : ve_H} {P : ve_H → Prop}  (hT : vx_T 625 672 h) (H : (0 ≤ (vx_J h 625 42) ∧ (vx_J h 625 42) < 61) ∧ vx_CI d 83 [.ref 625, .int (vx_i (vx_J h 636 (vx_J h 625 42).toNat))] h (fun r2 h2 => vx_T 625 672 h2 → (0 ≤ (vx_J h2 625 42) ∧ (vx_J h2 625 42) < 61) ∧ vx_W (d + 1) 86 26 [some (.ref 625), some (.int (vx_i r2)), some (.int (vx_i (vx_J h2 640 (vx_J h2 625 42).toNat))), some (.int (vx_i 0)), none, none, none, none] [] h2 (vx_RV P))) : vx_CV (d + 1) 86 [.ref 625] h P := by
  refine vx_enter (ml := 8) (by decide +kernel) ?_
  show vx_W _ _ 0 [some (.ref 625), none, none, none, none, none, none, none] [] h _
  refine vx_aload_n (n := 0) (q := 1) (by decide +kernel) rfl ?_
  refine vx_aload_n (n := 0) (q := 2) (by decide +kernel) rfl ?_
  refine vx_getR (b := 636) (idx := 41) (kd := 9) (s := 17) (fin := true) (q := 5) (by decide +kernel) (vx_Tk hT (by decide +kernel)) (vx_Tr hT (kd := 9) (by decide +kernel) (by decide +kernel) (by decide +kernel)) ?_
  refine vx_aload_n (n := 0) (q := 6) (by decide +kernel) rfl ?_
  refine vx_getI (idx := 223) (kd := 9) (s := 42) (fin := false) (q := 9) (by decide +kernel) (vx_Tk hT (by decide +kernel)) ?_
  obtain ⟨k1, H⟩ := H
  refine vx_iaload (z := 61) (q := 10) (by decide +kernel) (vx_Tk hT (by decide +kernel)) (vx_Tz hT (by decide +kernel)) (vx_ix k1 (by decide)) ?_
  refine vx_callI (i := .invokevirtual 440) (how := 3) (cm := 83) (np := 2) (q := 13) (args := [.ref 625, .int (vx_i (vx_J h 636 (vx_J h 625 42).toNat))]) (rest := []) (by decide +kernel) rfl rfl rfl (vx_w2 (w := 2) (ml := 2) rfl (by decide +kernel)) (vx_rcv (kd := 9) (vx_Tk hT (by decide +kernel)) (by decide +kernel)) H (fun r2 h2 hr2 hs2 H => ?_)
  have hT2 := vx_Tsh hT hs2
  replace H := H hT2
  refine vx_istore_n (n := 1) (q := 14) (lv' := [some (.ref 625), some (.int (vx_i r2)), none, none, none, none, none, none]) (by decide +kernel) rfl ?_
  refine vx_aload_n (n := 0) (q := 15) (by decide +kernel) rfl ?_
  refine vx_getR (b := 640) (idx := 53) (kd := 9) (s := 21) (fin := true) (q := 18) (by decide +kernel) (vx_Tk hT2 (by decide +kernel)) (vx_Tr hT2 (kd := 9) (by decide +kernel) (by decide +kernel) (by decide +kernel)) ?_
  refine vx_aload_n (n := 0) (q := 19) (by decide +kernel) rfl ?_
  refine vx_getI (idx := 223) (kd := 9) (s := 42) (fin := false) (q := 22) (by decide +kernel) (vx_Tk hT2 (by decide +kernel)) ?_
  obtain ⟨k3, H⟩ := H
  refine vx_iaload (z := 61) (q := 23) (by decide +kernel) (vx_Tk hT2 (by decide +kernel)) (vx_Tz hT2 (by decide +kernel)) (vx_ix k3 (by decide)) ?_
  refine vx_istore_n (n := 2) (q := 24) (lv' := [some (.ref 625), some (.int (vx_i r2)), some (.int (vx_i (vx_J h2 640 (vx_J h2 625 42).toNat))), none, none, none, none, none]) (by decide +kernel) rfl ?_
  refine vx_iconst (n := 0) (q := 25) (by decide +kernel) ?_
  refine vx_istore_n (n := 3) (q := 26) (lv' := [some (.ref 625), some (.int (vx_i r2)), some (.int (vx_i (vx_J h2 640 (vx_J h2 625 42).toNat))), some (.int (vx_i 0)), none, none, none, none]) (by decide +kernel) rfl ?_
  exact H
theorem vg_86_26 {d : Nat} {h : ve_H} {P : ve_H → Prop} {v1 : Int} {v2 : Int} {v3 : Int} (hT : vx_T 625 672 h) (H : (vx_rI v3) ∧ (vx_rI v1) ∧ ((v1 ≤ v3 → vx_CL d 82 [.ref 625, .int (vx_i v2)] h (fun r4 h4 => vx_T 625 672 h4 → vx_W (d + 1) 86 66 [some (.ref 625), some (.int (vx_i v1)), some (.int (vx_i v2)), some (.long (vx_l r4)), none, some (.int (vx_i 0)), none, none] [] h4 (vx_RV P))) ∧ (v3 < v1 → (vx_rI v2) ∧ ((v3 ≠ v2 → vx_CL d 82 [.ref 625, .int (vx_i v3)] h (fun r7 h7 => vx_T 625 672 h7 → (0 ≤ v3 ∧ v3 < 4) ∧ (∀ h9, h9 = vx_sK h7 669 v3.toNat r7 → vx_T 625 672 h9 → vx_W (d + 1) 86 26 [some (.ref 625), some (.int (vx_i v1)), some (.int (vx_i v2)), some (.int (vx_i (v3 + 1))), none, none, none, none] [] h9 (vx_RV P)))) ∧ (v3 = v2 → (0 ≤ v3 ∧ v3 < 4) ∧ (∀ h11, h11 = vx_sK h 669 v3.toNat 0 → vx_T 625 672 h11 → vx_W (d + 1) 86 26 [some (.ref 625), some (.int (vx_i v1)), some (.int (vx_i v2)), some (.int (vx_i (v3 + 1))), none, none, none, none] [] h11 (vx_RV P))))))) : vx_W (d + 1) 86 26 [some (.ref 625), some (.int (vx_i v1)), some (.int (vx_i v2)), some (.int (vx_i v3)), none, none, none, none] [] h (vx_RV P) := by
  refine vx_iload_n (n := 3) (q := 27) (by decide +kernel) rfl ?_
  refine vx_iload_n (n := 1) (q := 28) (by decide +kernel) rfl ?_
  obtain ⟨k1, H⟩ := H
  obtain ⟨k2, H⟩ := H
  refine vx_icmp_ge (off := 29) (q := 31) (t := 57) (by decide +kernel) k1 k2 (fun c3 => ?_) (fun c3 => ?_)
  · replace H := H.1 c3
    refine vx_aload_n (n := 0) (q := 58) (by decide +kernel) rfl ?_
    refine vx_iload_n (n := 2) (q := 59) (by decide +kernel) rfl ?_
    refine vx_callL (i := .invokevirtual 446) (how := 3) (cm := 82) (np := 2) (q := 62) (args := [.ref 625, .int (vx_i v2)]) (rest := []) (by decide +kernel) rfl rfl rfl (vx_w2 (w := 2) (ml := 2) rfl (by decide +kernel)) (vx_rcv (kd := 9) (vx_Tk hT (by decide +kernel)) (by decide +kernel)) H (fun r4 h4 hr4 hs4 H => ?_)
    have hT4 := vx_Tsh hT hs4
    replace H := H hT4
    refine vx_lstore_n (n := 3) (q := 63) (lv' := [some (.ref 625), some (.int (vx_i v1)), some (.int (vx_i v2)), some (.long (vx_l r4)), none, none, none, none]) (by decide +kernel) rfl ?_
    refine vx_iconst (n := 0) (q := 64) (by decide +kernel) ?_
    refine vx_istore (n := 5) (q := 66) (lv' := [some (.ref 625), some (.int (vx_i v1)), some (.int (vx_i v2)), some (.long (vx_l r4)), none, some (.int (vx_i 0)), none, none]) (by decide +kernel) rfl ?_
    exact H
  · replace H := H.2 c3
    refine vx_aload_n (n := 0) (q := 32) (by decide +kernel) rfl ?_
    refine vx_getR (b := 669) (idx := 145) (kd := 9) (s := 74) (fin := true) (q := 35) (by decide +kernel) (vx_Tk hT (by decide +kernel)) (vx_Tr hT (kd := 9) (by decide +kernel) (by decide +kernel) (by decide +kernel)) ?_
    refine vx_iload_n (n := 3) (q := 36) (by decide +kernel) rfl ?_
    refine vx_iload_n (n := 3) (q := 37) (by decide +kernel) rfl ?_
    refine vx_iload_n (n := 2) (q := 38) (by decide +kernel) rfl ?_
    obtain ⟨k5, H⟩ := H
    refine vx_icmp_ne (off := 7) (q := 41) (t := 45) (by decide +kernel) k1 k5 (fun c6 => ?_) (fun c6 => ?_)
    · replace H := H.1 c6
      refine vx_aload_n (n := 0) (q := 46) (by decide +kernel) rfl ?_
      refine vx_iload_n (n := 3) (q := 47) (by decide +kernel) rfl ?_
      refine vx_callL (i := .invokevirtual 446) (how := 3) (cm := 82) (np := 2) (q := 50) (args := [.ref 625, .int (vx_i v3)]) (rest := [.int (vx_i v3), .ref 669]) (by decide +kernel) rfl rfl rfl (vx_w2 (w := 2) (ml := 2) rfl (by decide +kernel)) (vx_rcv (kd := 9) (vx_Tk hT (by decide +kernel)) (by decide +kernel)) H (fun r7 h7 hr7 hs7 H => ?_)
      have hT7 := vx_Tsh hT hs7
      replace H := H hT7
      obtain ⟨k8, H⟩ := H
      refine vx_lastore (z := 4) (q := 51) (by decide +kernel) (vx_Tk hT7 (by decide +kernel)) (vx_Tz hT7 (by decide +kernel)) (vx_ix k8 (by decide)) (fun h9 e9 => ?_)
      have hT9 := vx_TK hT7 e9
      replace H := H h9 e9 hT9
      refine vx_iinc (n := 3) (m := 1) (x := v3) (q := 54) (lv' := [some (.ref 625), some (.int (vx_i v1)), some (.int (vx_i v2)), some (.int (vx_i (v3 + 1))), none, none, none, none]) (by decide +kernel) rfl rfl ?_
      refine vx_goto (off := (-28)) (q := 57) (t := 26) (by decide +kernel) ?_
      exact H
    · replace H := H.2 c6
      refine vx_lconst (n := 0) (m := 0) (q := 42) (by decide +kernel) ?_
      refine vx_goto (off := 8) (q := 45) (t := 50) (by decide +kernel) ?_
      obtain ⟨k10, H⟩ := H
      refine vx_lastore (z := 4) (q := 51) (by decide +kernel) (vx_Tk hT (by decide +kernel)) (vx_Tz hT (by decide +kernel)) (vx_ix k10 (by decide)) (fun h11 e11 => ?_)
      have hT11 := vx_TK hT e11
      replace H := H h11 e11 hT11
      refine vx_iinc (n := 3) (m := 1) (x := v3) (q := 54) (lv' := [some (.ref 625), some (.int (vx_i v1)), some (.int (vx_i v2)), some (.int (vx_i (v3 + 1))), none, none, none, none]) (by decide +kernel) rfl rfl ?_
      refine vx_goto (off := (-28)) (q := 57) (t := 26) (by decide +kernel) ?_
      exact H
theorem vg_86_66 {d : Nat} {h : ve_H} {P : ve_H → Prop} {v1 : Int} {v2 : Int} {v3 : Int} {v5 : Int} (hT : vx_T 625 672 h) (H : (vx_rI v5) ∧ (((vx_J h 625 75) ≤ v5 → ((v5 ≠ (vx_J h 625 75) → vx_W (d + 1) 86 107 [some (.ref 625), some (.int (vx_i v1)), some (.int (vx_i v2)), some (.long (vx_l v3)), none, some (.int (vx_i v5)), some (.int (vx_i 0)), none] [] h (vx_RV P)) ∧ (v5 = (vx_J h 625 75) → vx_W (d + 1) 86 107 [some (.ref 625), some (.int (vx_i v1)), some (.int (vx_i v2)), some (.long (vx_l v3)), none, some (.int (vx_i v5)), some (.int (vx_i 1)), none] [] h (vx_RV P)))) ∧ (v5 < (vx_J h 625 75) → vx_CI d 87 [.ref 625, .int (vx_i v5), .int (vx_i v1)] h (fun r4 h4 => vx_T 625 672 h4 → ((r4 ≠ 0 → ((v5 ≠ (vx_J h4 625 75) → vx_W (d + 1) 86 107 [some (.ref 625), some (.int (vx_i v1)), some (.int (vx_i v2)), some (.long (vx_l v3)), none, some (.int (vx_i v5)), some (.int (vx_i 0)), none] [] h4 (vx_RV P)) ∧ (v5 = (vx_J h4 625 75) → vx_W (d + 1) 86 107 [some (.ref 625), some (.int (vx_i v1)), some (.int (vx_i v2)), some (.long (vx_l v3)), none, some (.int (vx_i v5)), some (.int (vx_i 1)), none] [] h4 (vx_RV P)))) ∧ (r4 = 0 → vx_W (d + 1) 86 66 [some (.ref 625), some (.int (vx_i v1)), some (.int (vx_i v2)), some (.long (vx_l v3)), none, some (.int (vx_i (v5 + 1))), none, none] [] h4 (vx_RV P))))))) : vx_W (d + 1) 86 66 [some (.ref 625), some (.int (vx_i v1)), some (.int (vx_i v2)), some (.long (vx_l v3)), none, some (.int (vx_i v5)), none, none] [] h (vx_RV P) := by
  refine vx_iload (n := 5) (q := 68) (by decide +kernel) rfl ?_
  refine vx_aload_n (n := 0) (q := 69) (by decide +kernel) rfl ?_
  refine vx_getI (idx := 453) (kd := 9) (s := 75) (fin := false) (q := 72) (by decide +kernel) (vx_Tk hT (by decide +kernel)) ?_
  obtain ⟨k1, H⟩ := H
  refine vx_icmp_ge (off := 19) (q := 75) (t := 91) (by decide +kernel) k1 (vx_rI_J h 625 75) (fun c2 => ?_) (fun c2 => ?_)
  · replace H := H.1 c2
    refine vx_iload (n := 5) (q := 93) (by decide +kernel) rfl ?_
    refine vx_aload_n (n := 0) (q := 94) (by decide +kernel) rfl ?_
    refine vx_getI (idx := 453) (kd := 9) (s := 75) (fin := false) (q := 97) (by decide +kernel) (vx_Tk hT (by decide +kernel)) ?_
    refine vx_icmp_ne (off := 7) (q := 100) (t := 104) (by decide +kernel) k1 (vx_rI_J h 625 75) (fun c3 => ?_) (fun c3 => ?_)
    · replace H := H.1 c3
      refine vx_iconst (n := 0) (q := 105) (by decide +kernel) ?_
      refine vx_istore (n := 6) (q := 107) (lv' := [some (.ref 625), some (.int (vx_i v1)), some (.int (vx_i v2)), some (.long (vx_l v3)), none, some (.int (vx_i v5)), some (.int (vx_i 0)), none]) (by decide +kernel) rfl ?_
      exact H
    · replace H := H.2 c3
      refine vx_iconst (n := 1) (q := 101) (by decide +kernel) ?_
      refine vx_goto (off := 4) (q := 104) (t := 105) (by decide +kernel) ?_
      refine vx_istore (n := 6) (q := 107) (lv' := [some (.ref 625), some (.int (vx_i v1)), some (.int (vx_i v2)), some (.long (vx_l v3)), none, some (.int (vx_i v5)), some (.int (vx_i 1)), none]) (by decide +kernel) rfl ?_
      exact H
  · replace H := H.2 c2
    refine vx_aload_n (n := 0) (q := 76) (by decide +kernel) rfl ?_
    refine vx_iload (n := 5) (q := 78) (by decide +kernel) rfl ?_
    refine vx_iload_n (n := 1) (q := 79) (by decide +kernel) rfl ?_
    refine vx_callI (i := .invokevirtual 456) (how := 3) (cm := 87) (np := 3) (q := 82) (args := [.ref 625, .int (vx_i v5), .int (vx_i v1)]) (rest := []) (by decide +kernel) rfl rfl rfl (vx_w2 (w := 3) (ml := 4) rfl (by decide +kernel)) (vx_rcv (kd := 9) (vx_Tk hT (by decide +kernel)) (by decide +kernel)) H (fun r4 h4 hr4 hs4 H => ?_)
    have hT4 := vx_Tsh hT hs4
    replace H := H hT4
    refine vx_if0_ne (off := 9) (q := 85) (t := 91) (by decide +kernel) hr4 (fun c5 => ?_) (fun c5 => ?_)
    · replace H := H.1 c5
      refine vx_iload (n := 5) (q := 93) (by decide +kernel) rfl ?_
      refine vx_aload_n (n := 0) (q := 94) (by decide +kernel) rfl ?_
      refine vx_getI (idx := 453) (kd := 9) (s := 75) (fin := false) (q := 97) (by decide +kernel) (vx_Tk hT4 (by decide +kernel)) ?_
      refine vx_icmp_ne (off := 7) (q := 100) (t := 104) (by decide +kernel) k1 (vx_rI_J h4 625 75) (fun c6 => ?_) (fun c6 => ?_)
      · replace H := H.1 c6
        refine vx_iconst (n := 0) (q := 105) (by decide +kernel) ?_
        refine vx_istore (n := 6) (q := 107) (lv' := [some (.ref 625), some (.int (vx_i v1)), some (.int (vx_i v2)), some (.long (vx_l v3)), none, some (.int (vx_i v5)), some (.int (vx_i 0)), none]) (by decide +kernel) rfl ?_
        exact H
      · replace H := H.2 c6
        refine vx_iconst (n := 1) (q := 101) (by decide +kernel) ?_
        refine vx_goto (off := 4) (q := 104) (t := 105) (by decide +kernel) ?_
        refine vx_istore (n := 6) (q := 107) (lv' := [some (.ref 625), some (.int (vx_i v1)), some (.int (vx_i v2)), some (.long (vx_l v3)), none, some (.int (vx_i v5)), some (.int (vx_i 1)), none]) (by decide +kernel) rfl ?_
        exact H
    · replace H := H.2 c5
      refine vx_iinc (n := 5) (m := 1) (x := v5) (q := 88) (lv' := [some (.ref 625), some (.int (vx_i v1)), some (.int (vx_i v2)), some (.long (vx_l v3)), none, some (.int (vx_i (v5 + 1))), none, none]) (by decide +kernel) rfl rfl ?_
      refine vx_goto (off := (-22)) (q := 91) (t := 66) (by decide +kernel) ?_
      exact H
theorem vg_86_107 {d : Nat} {h : ve_H} {P : ve_H → Prop} {v1 : Int} {v2 : Int} {v3 : Int} {v5 : Int} {v6 : Int} (hT : vx_T 625 672 h) (H : (vx_rI v6) ∧ ((v6 = 0 → vx_W (d + 1) 86 210 [some (.ref 625), some (.int (vx_i v1)), some (.int (vx_i v2)), some (.long (vx_l v3)), none, some (.int (vx_i v5)), some (.int (vx_i v6)), none] [] h (vx_RV P)) ∧ (v6 ≠ 0 → (((vx_J h 625 75) ≤ 200 → vx_W (d + 1) 86 131 [some (.ref 625), some (.int (vx_i v1)), some (.int (vx_i v2)), some (.long (vx_l v3)), none, some (.int (vx_i v5)), some (.int (vx_i v6)), some (.int (vx_i 0))] [] h (vx_RV P)) ∧ (200 < (vx_J h 625 75) → (∀ h4, h4 = vx_sJ h 625 68 1 → vx_T 625 672 h4 → P h4)))))) : vx_W (d + 1) 86 107 [some (.ref 625), some (.int (vx_i v1)), some (.int (vx_i v2)), some (.long (vx_l v3)), none, some (.int (vx_i v5)), some (.int (vx_i v6)), none] [] h (vx_RV P) := by
  refine vx_iload (n := 6) (q := 109) (by decide +kernel) rfl ?_
  obtain ⟨k1, H⟩ := H
  refine vx_if0_eq (off := 101) (q := 112) (t := 210) (by decide +kernel) k1 (fun c2 => ?_) (fun c2 => ?_)
  · replace H := H.1 c2
    exact H
  · replace H := H.2 c2
    refine vx_aload_n (n := 0) (q := 113) (by decide +kernel) rfl ?_
    refine vx_getI (idx := 453) (kd := 9) (s := 75) (fin := false) (q := 116) (by decide +kernel) (vx_Tk hT (by decide +kernel)) ?_
    refine vx_sipush (n := 200) (q := 119) (by decide +kernel) ?_
    refine vx_icmp_le (off := 9) (q := 122) (t := 128) (by decide +kernel) (vx_rI_J h 625 75) (by decide) (fun c3 => ?_) (fun c3 => ?_)
    · replace H := H.1 c3
      refine vx_iconst (n := 0) (q := 129) (by decide +kernel) ?_
      refine vx_istore (n := 7) (q := 131) (lv' := [some (.ref 625), some (.int (vx_i v1)), some (.int (vx_i v2)), some (.long (vx_l v3)), none, some (.int (vx_i v5)), some (.int (vx_i v6)), some (.int (vx_i 0))]) (by decide +kernel) rfl ?_
      exact H
    · replace H := H.2 c3
      refine vx_aload_n (n := 0) (q := 123) (by decide +kernel) rfl ?_
      refine vx_iconst (n := 1) (q := 124) (by decide +kernel) ?_
      refine vx_putZ (idx := 422) (kd := 9) (s := 68) (fin := false) (q := 127) (by decide +kernel) (vx_Tk hT (by decide +kernel)) (Or.inr rfl) (fun h4 e4 => ?_)
      have hT4 := vx_TJ hT e4
      replace H := H h4 e4 hT4
      refine vx_retV (q := 128) (by decide +kernel) ?_
      exact H
theorem vg_86_131 {d : Nat} {h : ve_H} {P : ve_H → Prop} {v1 : Int} {v2 : Int} {v3 : Int} {v5 : Int} {v6 : Int} {v7 : Int} (hT : vx_T 625 672 h) (H : (vx_rI v7) ∧ (vx_rI v1) ∧ ((v1 ≤ v7 → (∀ h4, h4 = vx_sJ h 625 75 ((vx_J h 625 75) + 1) → vx_T 625 672 h4 → (0 ≤ (vx_J h4 625 42) ∧ (vx_J h4 625 42) < 61) ∧ (((vx_J h4 639 (vx_J h4 625 42).toNat) = 2 → (0 ≤ v5 ∧ v5 < 202) ∧ (∀ h8, h8 = vx_sK h4 671 v5.toNat 0 → vx_T 625 672 h8 → vx_W (d + 1) 86 210 [some (.ref 625), some (.int (vx_i v1)), some (.int (vx_i v2)), some (.long (vx_l v3)), none, some (.int (vx_i v5)), some (.int (vx_i v6)), some (.int (vx_i v7))] [] h8 (vx_RV P))) ∧ ((vx_J h4 639 (vx_J h4 625 42).toNat) ≠ 2 → (0 ≤ (vx_J h4 625 42) ∧ (vx_J h4 625 42) < 61) ∧ (((vx_J h4 639 (vx_J h4 625 42).toNat) ≠ 3 → (0 ≤ v5 ∧ v5 < 202) ∧ (∀ h12, h12 = vx_sK h4 671 v5.toNat v3 → vx_T 625 672 h12 → vx_W (d + 1) 86 210 [some (.ref 625), some (.int (vx_i v1)), some (.int (vx_i v2)), some (.long (vx_l v3)), none, some (.int (vx_i v5)), some (.int (vx_i v6)), some (.int (vx_i v7))] [] h12 (vx_RV P))) ∧ ((vx_J h4 639 (vx_J h4 625 42).toNat) = 3 → (0 ≤ v5 ∧ v5 < 202) ∧ (∀ h14, h14 = vx_sK h4 671 v5.toNat 0 → vx_T 625 672 h14 → vx_W (d + 1) 86 210 [some (.ref 625), some (.int (vx_i v1)), some (.int (vx_i v2)), some (.long (vx_l v3)), none, some (.int (vx_i v5)), some (.int (vx_i v6)), some (.int (vx_i v7))] [] h14 (vx_RV P)))))))) ∧ (v7 < v1 → (0 ≤ v7 ∧ v7 < 4) ∧ (0 ≤ ((4 * v5) + v7) ∧ ((4 * v5) + v7) < 810) ∧ (∀ h17, h17 = vx_sK h 670 ((4 * v5) + v7).toNat (vx_K h 669 v7.toNat) → vx_T 625 672 h17 → vx_W (d + 1) 86 131 [some (.ref 625), some (.int (vx_i v1)), some (.int (vx_i v2)), some (.long (vx_l v3)), none, some (.int (vx_i v5)), some (.int (vx_i v6)), some (.int (vx_i (v7 + 1)))] [] h17 (vx_RV P))))) : vx_W (d + 1) 86 131 [some (.ref 625), some (.int (vx_i v1)), some (.int (vx_i v2)), some (.long (vx_l v3)), none, some (.int (vx_i v5)), some (.int (vx_i v6)), some (.int (vx_i v7))] [] h (vx_RV P) := by
  refine vx_iload (n := 7) (q := 133) (by decide +kernel) rfl ?_
  refine vx_iload_n (n := 1) (q := 134) (by decide +kernel) rfl ?_
  obtain ⟨k1, H⟩ := H
  obtain ⟨k2, H⟩ := H
  refine vx_icmp_ge (off := 28) (q := 137) (t := 162) (by decide +kernel) k1 k2 (fun c3 => ?_) (fun c3 => ?_)
  · replace H := H.1 c3
    refine vx_aload_n (n := 0) (q := 163) (by decide +kernel) rfl ?_
    refine vx_dupR (q := 164) (by decide +kernel) ?_
    refine vx_getI (idx := 453) (kd := 9) (s := 75) (fin := false) (q := 167) (by decide +kernel) (vx_Tk hT (by decide +kernel)) ?_
    refine vx_iconst (n := 1) (q := 168) (by decide +kernel) ?_
    refine vx_iadd (q := 169) (by decide +kernel) ?_
    refine vx_putI (idx := 453) (kd := 9) (s := 75) (fin := false) (q := 172) (by decide +kernel) (vx_Tk hT (by decide +kernel)) (fun h4 e4 => ?_)
    have hT4 := vx_TJ hT e4
    replace H := H h4 e4 hT4
    refine vx_aload_n (n := 0) (q := 173) (by decide +kernel) rfl ?_
    refine vx_getR (b := 671) (idx := 151) (kd := 9) (s := 77) (fin := true) (q := 176) (by decide +kernel) (vx_Tk hT4 (by decide +kernel)) (vx_Tr hT4 (kd := 9) (by decide +kernel) (by decide +kernel) (by decide +kernel)) ?_
    refine vx_iload (n := 5) (q := 178) (by decide +kernel) rfl ?_
    refine vx_aload_n (n := 0) (q := 179) (by decide +kernel) rfl ?_
    refine vx_getR (b := 639) (idx := 50) (kd := 9) (s := 20) (fin := true) (q := 182) (by decide +kernel) (vx_Tk hT4 (by decide +kernel)) (vx_Tr hT4 (kd := 9) (by decide +kernel) (by decide +kernel) (by decide +kernel)) ?_
    refine vx_aload_n (n := 0) (q := 183) (by decide +kernel) rfl ?_
    refine vx_getI (idx := 223) (kd := 9) (s := 42) (fin := false) (q := 186) (by decide +kernel) (vx_Tk hT4 (by decide +kernel)) ?_
    obtain ⟨k5, H⟩ := H
    refine vx_iaload (z := 61) (q := 187) (by decide +kernel) (vx_Tk hT4 (by decide +kernel)) (vx_Tz hT4 (by decide +kernel)) (vx_ix k5 (by decide)) ?_
    refine vx_iconst (n := 2) (q := 188) (by decide +kernel) ?_
    refine vx_icmp_eq (off := 16) (q := 191) (t := 204) (by decide +kernel) (vx_rI_J h4 639 (vx_J h4 625 42).toNat) (by decide) (fun c6 => ?_) (fun c6 => ?_)
    · replace H := H.1 c6
      refine vx_lconst (n := 0) (m := 0) (q := 205) (by decide +kernel) ?_
      refine vx_goto (off := 4) (q := 208) (t := 209) (by decide +kernel) ?_
      obtain ⟨k7, H⟩ := H
      refine vx_lastore (z := 202) (q := 210) (by decide +kernel) (vx_Tk hT4 (by decide +kernel)) (vx_Tz hT4 (by decide +kernel)) (vx_ix k7 (by decide)) (fun h8 e8 => ?_)
      have hT8 := vx_TK hT4 e8
      replace H := H h8 e8 hT8
      exact H
    · replace H := H.2 c6
      refine vx_aload_n (n := 0) (q := 192) (by decide +kernel) rfl ?_
      refine vx_getR (b := 639) (idx := 50) (kd := 9) (s := 20) (fin := true) (q := 195) (by decide +kernel) (vx_Tk hT4 (by decide +kernel)) (vx_Tr hT4 (kd := 9) (by decide +kernel) (by decide +kernel) (by decide +kernel)) ?_
      refine vx_aload_n (n := 0) (q := 196) (by decide +kernel) rfl ?_
      refine vx_getI (idx := 223) (kd := 9) (s := 42) (fin := false) (q := 199) (by decide +kernel) (vx_Tk hT4 (by decide +kernel)) ?_
      obtain ⟨k9, H⟩ := H
      refine vx_iaload (z := 61) (q := 200) (by decide +kernel) (vx_Tk hT4 (by decide +kernel)) (vx_Tz hT4 (by decide +kernel)) (vx_ix k9 (by decide)) ?_
      refine vx_iconst (n := 3) (q := 201) (by decide +kernel) ?_
      refine vx_icmp_ne (off := 7) (q := 204) (t := 208) (by decide +kernel) (vx_rI_J h4 639 (vx_J h4 625 42).toNat) (by decide) (fun c10 => ?_) (fun c10 => ?_)
      · replace H := H.1 c10
        refine vx_lload_n (n := 3) (q := 209) (by decide +kernel) rfl ?_
        obtain ⟨k11, H⟩ := H
        refine vx_lastore (z := 202) (q := 210) (by decide +kernel) (vx_Tk hT4 (by decide +kernel)) (vx_Tz hT4 (by decide +kernel)) (vx_ix k11 (by decide)) (fun h12 e12 => ?_)
        have hT12 := vx_TK hT4 e12
        replace H := H h12 e12 hT12
        exact H
      · replace H := H.2 c10
        refine vx_lconst (n := 0) (m := 0) (q := 205) (by decide +kernel) ?_
        refine vx_goto (off := 4) (q := 208) (t := 209) (by decide +kernel) ?_
        obtain ⟨k13, H⟩ := H
        refine vx_lastore (z := 202) (q := 210) (by decide +kernel) (vx_Tk hT4 (by decide +kernel)) (vx_Tz hT4 (by decide +kernel)) (vx_ix k13 (by decide)) (fun h14 e14 => ?_)
        have hT14 := vx_TK hT4 e14
        replace H := H h14 e14 hT14
        exact H
  · replace H := H.2 c3
    refine vx_aload_n (n := 0) (q := 138) (by decide +kernel) rfl ?_
    refine vx_getR (b := 670) (idx := 148) (kd := 9) (s := 76) (fin := true) (q := 141) (by decide +kernel) (vx_Tk hT (by decide +kernel)) (vx_Tr hT (kd := 9) (by decide +kernel) (by decide +kernel) (by decide +kernel)) ?_
    refine vx_iconst (n := 4) (q := 142) (by decide +kernel) ?_
    refine vx_iload (n := 5) (q := 144) (by decide +kernel) rfl ?_
    refine vx_imul (q := 145) (by decide +kernel) ?_
    refine vx_iload (n := 7) (q := 147) (by decide +kernel) rfl ?_
    refine vx_iadd (q := 148) (by decide +kernel) ?_
    refine vx_aload_n (n := 0) (q := 149) (by decide +kernel) rfl ?_
    refine vx_getR (b := 669) (idx := 145) (kd := 9) (s := 74) (fin := true) (q := 152) (by decide +kernel) (vx_Tk hT (by decide +kernel)) (vx_Tr hT (kd := 9) (by decide +kernel) (by decide +kernel) (by decide +kernel)) ?_
    refine vx_iload (n := 7) (q := 154) (by decide +kernel) rfl ?_
    obtain ⟨k15, H⟩ := H
    refine vx_laload (z := 4) (q := 155) (by decide +kernel) (vx_Tk hT (by decide +kernel)) (vx_Tz hT (by decide +kernel)) (vx_ix k15 (by decide)) ?_
    obtain ⟨k16, H⟩ := H
    refine vx_lastore (z := 810) (q := 156) (by decide +kernel) (vx_Tk hT (by decide +kernel)) (vx_Tz hT (by decide +kernel)) (vx_ix k16 (by decide)) (fun h17 e17 => ?_)
    have hT17 := vx_TK hT e17
    replace H := H h17 e17 hT17
    refine vx_iinc (n := 7) (m := 1) (x := v7) (q := 159) (lv' := [some (.ref 625), some (.int (vx_i v1)), some (.int (vx_i v2)), some (.long (vx_l v3)), none, some (.int (vx_i v5)), some (.int (vx_i v6)), some (.int (vx_i (v7 + 1)))]) (by decide +kernel) rfl rfl ?_
    refine vx_goto (off := (-28)) (q := 162) (t := 131) (by decide +kernel) ?_
    exact H
theorem vg_86_210 {d : Nat} {h : ve_H} {P : ve_H → Prop} {v1 : Int} {v2 : Int} {v3 : Int} {v5 : Int} {v6 : Int} {v7 : Option Value} (hT : vx_T 625 672 h) (H : (0 ≤ (vx_J h 625 42) ∧ (vx_J h 625 42) < 61) ∧ (((vx_J h 639 (vx_J h 625 42).toNat) = 2 → (0 ≤ v5 ∧ v5 < 202) ∧ (vx_rI ((vx_K h 671 v5.toNat) + 1)) ∧ (0 ≤ v5 ∧ v5 < 202) ∧ (∀ h6, h6 = vx_sK h 671 v5.toNat ((vx_K h 671 v5.toNat) + 1) → vx_T 625 672 h6 → P h6)) ∧ ((vx_J h 639 (vx_J h 625 42).toNat) = 3 → vx_CI d 66 [.long (vx_l v3)] h (fun r7 h7 => vx_T 625 672 h7 → ((r7 = 0 → (0 ≤ v5 ∧ v5 < 202) ∧ (vx_rI ((vx_K h7 671 v5.toNat) + v3)) ∧ (0 ≤ v5 ∧ v5 < 202) ∧ (∀ h12, h12 = vx_sK h7 671 v5.toNat ((vx_K h7 671 v5.toNat) + v3) → vx_T 625 672 h12 → P h12)) ∧ (r7 ≠ 0 → (0 ≤ v5 ∧ v5 < 202) ∧ (0 ≤ v5 ∧ v5 < 202) ∧ (∀ h15, h15 = vx_sK h7 671 v5.toNat (vx_K h7 671 v5.toNat) → vx_T 625 672 h15 → P h15))))) ∧ ((vx_J h 639 (vx_J h 625 42).toNat) = 4 → (0 ≤ v5 ∧ v5 < 202) ∧ vx_CI d 67 [.long (vx_l v3), .long (vx_l (vx_K h 671 v5.toNat))] h (fun r17 h17 => vx_T 625 672 h17 → ((0 ≤ r17 → (0 ≤ v5 ∧ v5 < 202) ∧ (0 ≤ v5 ∧ v5 < 202) ∧ (∀ h21, h21 = vx_sK h17 671 v5.toNat (vx_K h17 671 v5.toNat) → vx_T 625 672 h21 → P h21)) ∧ (r17 < 0 → (0 ≤ v5 ∧ v5 < 202) ∧ (∀ h23, h23 = vx_sK h17 671 v5.toNat v3 → vx_T 625 672 h23 → P h23))))) ∧ ((vx_J h 639 (vx_J h 625 42).toNat) ≠ 2 ∧ (vx_J h 639 (vx_J h 625 42).toNat) ≠ 3 ∧ (vx_J h 639 (vx_J h 625 42).toNat) ≠ 4 ∧ True → (0 ≤ v5 ∧ v5 < 202) ∧ vx_CI d 67 [.long (vx_l v3), .long (vx_l (vx_K h 671 v5.toNat))] h (fun r25 h25 => vx_T 625 672 h25 → ((r25 ≤ 0 → (0 ≤ v5 ∧ v5 < 202) ∧ (0 ≤ v5 ∧ v5 < 202) ∧ (∀ h29, h29 = vx_sK h25 671 v5.toNat (vx_K h25 671 v5.toNat) → vx_T 625 672 h29 → P h29)) ∧ (0 < r25 → (0 ≤ v5 ∧ v5 < 202) ∧ (∀ h31, h31 = vx_sK h25 671 v5.toNat v3 → vx_T 625 672 h31 → P h31))))))) : vx_W (d + 1) 86 210 [some (.ref 625), some (.int (vx_i v1)), some (.int (vx_i v2)), some (.long (vx_l v3)), none, some (.int (vx_i v5)), some (.int (vx_i v6)), v7] [] h (vx_RV P) := by
  refine vx_aload_n (n := 0) (q := 211) (by decide +kernel) rfl ?_
  refine vx_getR (b := 639) (idx := 50) (kd := 9) (s := 20) (fin := true) (q := 214) (by decide +kernel) (vx_Tk hT (by decide +kernel)) (vx_Tr hT (kd := 9) (by decide +kernel) (by decide +kernel) (by decide +kernel)) ?_
  refine vx_aload_n (n := 0) (q := 215) (by decide +kernel) rfl ?_
  refine vx_getI (idx := 223) (kd := 9) (s := 42) (fin := false) (q := 218) (by decide +kernel) (vx_Tk hT (by decide +kernel)) ?_
  obtain ⟨k1, H⟩ := H
  refine vx_iaload (z := 61) (q := 219) (by decide +kernel) (vx_Tk hT (by decide +kernel)) (vx_Tz hT (by decide +kernel)) (vx_ix k1 (by decide)) ?_
  refine vx_tsw (dd := 120) (lo := 2) (hi := 4) (offs := #[25, 46, 85]) (tl := [(2, 244), (3, 265), (4, 304)]) (td := 339) (q := 244) (by decide +kernel) (vx_rI_J h 639 (vx_J h 625 42).toNat) ⟨fun c2 => ?_, fun c2 => ?_, fun c2 => ?_, trivial⟩ (fun c2 => ?_)
  · replace H := H.1 c2
    refine vx_aload_n (n := 0) (q := 245) (by decide +kernel) rfl ?_
    refine vx_getR (b := 671) (idx := 151) (kd := 9) (s := 77) (fin := true) (q := 248) (by decide +kernel) (vx_Tk hT (by decide +kernel)) (vx_Tr hT (kd := 9) (by decide +kernel) (by decide +kernel) (by decide +kernel)) ?_
    refine vx_iload (n := 5) (q := 250) (by decide +kernel) rfl ?_
    refine vx_aload_n (n := 0) (q := 251) (by decide +kernel) rfl ?_
    refine vx_getR (b := 671) (idx := 151) (kd := 9) (s := 77) (fin := true) (q := 254) (by decide +kernel) (vx_Tk hT (by decide +kernel)) (vx_Tr hT (kd := 9) (by decide +kernel) (by decide +kernel) (by decide +kernel)) ?_
    refine vx_iload (n := 5) (q := 256) (by decide +kernel) rfl ?_
    obtain ⟨k3, H⟩ := H
    refine vx_laload (z := 202) (q := 257) (by decide +kernel) (vx_Tk hT (by decide +kernel)) (vx_Tz hT (by decide +kernel)) (vx_ix k3 (by decide)) ?_
    refine vx_l2i (q := 258) (by decide +kernel) ?_
    refine vx_iconst (n := 1) (q := 259) (by decide +kernel) ?_
    refine vx_iadd (q := 260) (by decide +kernel) ?_
    obtain ⟨k4, H⟩ := H
    refine vx_i2l (q := 261) (by decide +kernel) k4 ?_
    obtain ⟨k5, H⟩ := H
    refine vx_lastore (z := 202) (q := 262) (by decide +kernel) (vx_Tk hT (by decide +kernel)) (vx_Tz hT (by decide +kernel)) (vx_ix k5 (by decide)) (fun h6 e6 => ?_)
    have hT6 := vx_TK hT e6
    replace H := H h6 e6 hT6
    refine vx_goto (off := 109) (q := 265) (t := 371) (by decide +kernel) ?_
    refine vx_retV (q := 372) (by decide +kernel) ?_
    exact H
  · replace H := H.2.1 c2
    refine vx_aload_n (n := 0) (q := 266) (by decide +kernel) rfl ?_
    refine vx_getR (b := 671) (idx := 151) (kd := 9) (s := 77) (fin := true) (q := 269) (by decide +kernel) (vx_Tk hT (by decide +kernel)) (vx_Tr hT (kd := 9) (by decide +kernel) (by decide +kernel) (by decide +kernel)) ?_
    refine vx_iload (n := 5) (q := 271) (by decide +kernel) rfl ?_
    refine vx_lload_n (n := 3) (q := 272) (by decide +kernel) rfl ?_
    refine vx_callI (i := .invokestatic 364) (how := 4) (cm := 66) (np := 1) (q := 275) (args := [.long (vx_l v3)]) (rest := [.int (vx_i v5), .ref 671]) (by decide +kernel) rfl rfl rfl (vx_w2 (w := 2) (ml := 2) rfl (by decide +kernel)) rfl H (fun r7 h7 hr7 hs7 H => ?_)
    have hT7 := vx_Tsh hT hs7
    replace H := H hT7
    refine vx_if0_eq (off := 13) (q := 278) (t := 288) (by decide +kernel) hr7 (fun c8 => ?_) (fun c8 => ?_)
    · replace H := H.1 c8
      refine vx_aload_n (n := 0) (q := 289) (by decide +kernel) rfl ?_
      refine vx_getR (b := 671) (idx := 151) (kd := 9) (s := 77) (fin := true) (q := 292) (by decide +kernel) (vx_Tk hT7 (by decide +kernel)) (vx_Tr hT7 (kd := 9) (by decide +kernel) (by decide +kernel) (by decide +kernel)) ?_
      refine vx_iload (n := 5) (q := 294) (by decide +kernel) rfl ?_
      obtain ⟨k9, H⟩ := H
      refine vx_laload (z := 202) (q := 295) (by decide +kernel) (vx_Tk hT7 (by decide +kernel)) (vx_Tz hT7 (by decide +kernel)) (vx_ix k9 (by decide)) ?_
      refine vx_l2i (q := 296) (by decide +kernel) ?_
      refine vx_lload_n (n := 3) (q := 297) (by decide +kernel) rfl ?_
      refine vx_l2i (q := 298) (by decide +kernel) ?_
      refine vx_iadd (q := 299) (by decide +kernel) ?_
      obtain ⟨k10, H⟩ := H
      refine vx_i2l (q := 300) (by decide +kernel) k10 ?_
      obtain ⟨k11, H⟩ := H
      refine vx_lastore (z := 202) (q := 301) (by decide +kernel) (vx_Tk hT7 (by decide +kernel)) (vx_Tz hT7 (by decide +kernel)) (vx_ix k11 (by decide)) (fun h12 e12 => ?_)
      have hT12 := vx_TK hT7 e12
      replace H := H h12 e12 hT12
      refine vx_goto (off := 70) (q := 304) (t := 371) (by decide +kernel) ?_
      refine vx_retV (q := 372) (by decide +kernel) ?_
      exact H
    · replace H := H.2 c8
      refine vx_aload_n (n := 0) (q := 279) (by decide +kernel) rfl ?_
      refine vx_getR (b := 671) (idx := 151) (kd := 9) (s := 77) (fin := true) (q := 282) (by decide +kernel) (vx_Tk hT7 (by decide +kernel)) (vx_Tr hT7 (kd := 9) (by decide +kernel) (by decide +kernel) (by decide +kernel)) ?_
      refine vx_iload (n := 5) (q := 284) (by decide +kernel) rfl ?_
      obtain ⟨k13, H⟩ := H
      refine vx_laload (z := 202) (q := 285) (by decide +kernel) (vx_Tk hT7 (by decide +kernel)) (vx_Tz hT7 (by decide +kernel)) (vx_ix k13 (by decide)) ?_
      refine vx_goto (off := 15) (q := 288) (t := 300) (by decide +kernel) ?_
      obtain ⟨k14, H⟩ := H
      refine vx_lastore (z := 202) (q := 301) (by decide +kernel) (vx_Tk hT7 (by decide +kernel)) (vx_Tz hT7 (by decide +kernel)) (vx_ix k14 (by decide)) (fun h15 e15 => ?_)
      have hT15 := vx_TK hT7 e15
      replace H := H h15 e15 hT15
      refine vx_goto (off := 70) (q := 304) (t := 371) (by decide +kernel) ?_
      refine vx_retV (q := 372) (by decide +kernel) ?_
      exact H
  · replace H := H.2.2.1 c2
    refine vx_aload_n (n := 0) (q := 305) (by decide +kernel) rfl ?_
    refine vx_getR (b := 671) (idx := 151) (kd := 9) (s := 77) (fin := true) (q := 308) (by decide +kernel) (vx_Tk hT (by decide +kernel)) (vx_Tr hT (kd := 9) (by decide +kernel) (by decide +kernel) (by decide +kernel)) ?_
    refine vx_iload (n := 5) (q := 310) (by decide +kernel) rfl ?_
    refine vx_lload_n (n := 3) (q := 311) (by decide +kernel) rfl ?_
    refine vx_aload_n (n := 0) (q := 312) (by decide +kernel) rfl ?_
    refine vx_getR (b := 671) (idx := 151) (kd := 9) (s := 77) (fin := true) (q := 315) (by decide +kernel) (vx_Tk hT (by decide +kernel)) (vx_Tr hT (kd := 9) (by decide +kernel) (by decide +kernel) (by decide +kernel)) ?_
    refine vx_iload (n := 5) (q := 317) (by decide +kernel) rfl ?_
    obtain ⟨k16, H⟩ := H
    refine vx_laload (z := 202) (q := 318) (by decide +kernel) (vx_Tk hT (by decide +kernel)) (vx_Tz hT (by decide +kernel)) (vx_ix k16 (by decide)) ?_
    refine vx_callI (i := .invokestatic 375) (how := 4) (cm := 67) (np := 2) (q := 321) (args := [.long (vx_l v3), .long (vx_l (vx_K h 671 v5.toNat))]) (rest := [.int (vx_i v5), .ref 671]) (by decide +kernel) rfl rfl rfl (vx_w2 (w := 4) (ml := 8) rfl (by decide +kernel)) rfl H (fun r17 h17 hr17 hs17 H => ?_)
    have hT17 := vx_Tsh hT hs17
    replace H := H hT17
    refine vx_if0_ge (off := 7) (q := 324) (t := 328) (by decide +kernel) hr17 (fun c18 => ?_) (fun c18 => ?_)
    · replace H := H.1 c18
      refine vx_aload_n (n := 0) (q := 329) (by decide +kernel) rfl ?_
      refine vx_getR (b := 671) (idx := 151) (kd := 9) (s := 77) (fin := true) (q := 332) (by decide +kernel) (vx_Tk hT17 (by decide +kernel)) (vx_Tr hT17 (kd := 9) (by decide +kernel) (by decide +kernel) (by decide +kernel)) ?_
      refine vx_iload (n := 5) (q := 334) (by decide +kernel) rfl ?_
      obtain ⟨k19, H⟩ := H
      refine vx_laload (z := 202) (q := 335) (by decide +kernel) (vx_Tk hT17 (by decide +kernel)) (vx_Tz hT17 (by decide +kernel)) (vx_ix k19 (by decide)) ?_
      obtain ⟨k20, H⟩ := H
      refine vx_lastore (z := 202) (q := 336) (by decide +kernel) (vx_Tk hT17 (by decide +kernel)) (vx_Tz hT17 (by decide +kernel)) (vx_ix k20 (by decide)) (fun h21 e21 => ?_)
      have hT21 := vx_TK hT17 e21
      replace H := H h21 e21 hT21
      refine vx_goto (off := 35) (q := 339) (t := 371) (by decide +kernel) ?_
      refine vx_retV (q := 372) (by decide +kernel) ?_
      exact H
    · replace H := H.2 c18
      refine vx_lload_n (n := 3) (q := 325) (by decide +kernel) rfl ?_
      refine vx_goto (off := 10) (q := 328) (t := 335) (by decide +kernel) ?_
      obtain ⟨k22, H⟩ := H
      refine vx_lastore (z := 202) (q := 336) (by decide +kernel) (vx_Tk hT17 (by decide +kernel)) (vx_Tz hT17 (by decide +kernel)) (vx_ix k22 (by decide)) (fun h23 e23 => ?_)
      have hT23 := vx_TK hT17 e23
      replace H := H h23 e23 hT23
      refine vx_goto (off := 35) (q := 339) (t := 371) (by decide +kernel) ?_
      refine vx_retV (q := 372) (by decide +kernel) ?_
      exact H
  · replace H := H.2.2.2 c2
    refine vx_aload_n (n := 0) (q := 340) (by decide +kernel) rfl ?_
    refine vx_getR (b := 671) (idx := 151) (kd := 9) (s := 77) (fin := true) (q := 343) (by decide +kernel) (vx_Tk hT (by decide +kernel)) (vx_Tr hT (kd := 9) (by decide +kernel) (by decide +kernel) (by decide +kernel)) ?_
    refine vx_iload (n := 5) (q := 345) (by decide +kernel) rfl ?_
    refine vx_lload_n (n := 3) (q := 346) (by decide +kernel) rfl ?_
    refine vx_aload_n (n := 0) (q := 347) (by decide +kernel) rfl ?_
    refine vx_getR (b := 671) (idx := 151) (kd := 9) (s := 77) (fin := true) (q := 350) (by decide +kernel) (vx_Tk hT (by decide +kernel)) (vx_Tr hT (kd := 9) (by decide +kernel) (by decide +kernel) (by decide +kernel)) ?_
    refine vx_iload (n := 5) (q := 352) (by decide +kernel) rfl ?_
    obtain ⟨k24, H⟩ := H
    refine vx_laload (z := 202) (q := 353) (by decide +kernel) (vx_Tk hT (by decide +kernel)) (vx_Tz hT (by decide +kernel)) (vx_ix k24 (by decide)) ?_
    refine vx_callI (i := .invokestatic 375) (how := 4) (cm := 67) (np := 2) (q := 356) (args := [.long (vx_l v3), .long (vx_l (vx_K h 671 v5.toNat))]) (rest := [.int (vx_i v5), .ref 671]) (by decide +kernel) rfl rfl rfl (vx_w2 (w := 4) (ml := 8) rfl (by decide +kernel)) rfl H (fun r25 h25 hr25 hs25 H => ?_)
    have hT25 := vx_Tsh hT hs25
    replace H := H hT25
    refine vx_if0_le (off := 7) (q := 359) (t := 363) (by decide +kernel) hr25 (fun c26 => ?_) (fun c26 => ?_)
    · replace H := H.1 c26
      refine vx_aload_n (n := 0) (q := 364) (by decide +kernel) rfl ?_
      refine vx_getR (b := 671) (idx := 151) (kd := 9) (s := 77) (fin := true) (q := 367) (by decide +kernel) (vx_Tk hT25 (by decide +kernel)) (vx_Tr hT25 (kd := 9) (by decide +kernel) (by decide +kernel) (by decide +kernel)) ?_
      refine vx_iload (n := 5) (q := 369) (by decide +kernel) rfl ?_
      obtain ⟨k27, H⟩ := H
      refine vx_laload (z := 202) (q := 370) (by decide +kernel) (vx_Tk hT25 (by decide +kernel)) (vx_Tz hT25 (by decide +kernel)) (vx_ix k27 (by decide)) ?_
      obtain ⟨k28, H⟩ := H
      refine vx_lastore (z := 202) (q := 371) (by decide +kernel) (vx_Tk hT25 (by decide +kernel)) (vx_Tz hT25 (by decide +kernel)) (vx_ix k28 (by decide)) (fun h29 e29 => ?_)
      have hT29 := vx_TK hT25 e29
      replace H := H h29 e29 hT29
      refine vx_retV (q := 372) (by decide +kernel) ?_
      exact H
    · replace H := H.2 c26
      refine vx_lload_n (n := 3) (q := 360) (by decide +kernel) rfl ?_
      refine vx_goto (off := 10) (q := 363) (t := 370) (by decide +kernel) ?_
      obtain ⟨k30, H⟩ := H
      refine vx_lastore (z := 202) (q := 371) (by decide +kernel) (vx_Tk hT25 (by decide +kernel)) (vx_Tz hT25 (by decide +kernel)) (vx_ix k30 (by decide)) (fun h31 e31 => ?_)
      have hT31 := vx_TK hT25 e31
      replace H := H h31 e31 hT31
      refine vx_retV (q := 372) (by decide +kernel) ?_
      exact H
-- RuleHouseModel.isGroup(II)Z
theorem vg_87 {d : Nat} {h : ve_H} {P : Int → ve_H → Prop} {x1 : Int} {x2 : Int} (hT : vx_T 625 672 h) (H : vx_W d 87 2 [some (.ref 625), some (.int (vx_i x1)), some (.int (vx_i x2)), some (.int (vx_i 0))] [] h (vx_RI P)) : vx_CI d 87 [.ref 625, .int (vx_i x1), .int (vx_i x2)] h P := by
  refine vx_enter (ml := 4) (by decide +kernel) ?_
  show vx_W _ _ 0 [some (.ref 625), some (.int (vx_i x1)), some (.int (vx_i x2)), none] [] h _
  refine vx_iconst (n := 0) (q := 1) (by decide +kernel) ?_
  refine vx_istore_n (n := 3) (q := 2) (lv' := [some (.ref 625), some (.int (vx_i x1)), some (.int (vx_i x2)), some (.int (vx_i 0))]) (by decide +kernel) rfl ?_
  exact H
theorem vg_87_2 {d : Nat} {h : ve_H} {P : Int → ve_H → Prop} {v1 : Int} {v2 : Int} {v3 : Int} (hT : vx_T 625 672 h) (H : (vx_rI v3) ∧ (vx_rI v2) ∧ ((v2 ≤ v3 → P 1 h) ∧ (v3 < v2 → (0 ≤ ((4 * v1) + v3) ∧ ((4 * v1) + v3) < 810) ∧ (0 ≤ v3 ∧ v3 < 4) ∧ (((vx_K h 670 ((4 * v1) + v3).toNat) = (vx_K h 669 v3.toNat) → vx_W d 87 2 [some (.ref 625), some (.int (vx_i v1)), some (.int (vx_i v2)), some (.int (vx_i (v3 + 1)))] [] h (vx_RI P)) ∧ ((vx_K h 670 ((4 * v1) + v3).toNat) ≠ (vx_K h 669 v3.toNat) → P 0 h))))) : vx_W d 87 2 [some (.ref 625), some (.int (vx_i v1)), some (.int (vx_i v2)), some (.int (vx_i v3))] [] h (vx_RI P) := by
  refine vx_iload_n (n := 3) (q := 3) (by decide +kernel) rfl ?_
  refine vx_iload_n (n := 2) (q := 4) (by decide +kernel) rfl ?_
  obtain ⟨k1, H⟩ := H
  obtain ⟨k2, H⟩ := H
  refine vx_icmp_ge (off := 31) (q := 7) (t := 35) (by decide +kernel) k1 k2 (fun c3 => ?_) (fun c3 => ?_)
  · replace H := H.1 c3
    refine vx_iconst (n := 1) (q := 36) (by decide +kernel) ?_
    refine vx_retZ (q := 37) (by decide +kernel) (Or.inr rfl) ?_
    exact H
  · replace H := H.2 c3
    refine vx_aload_n (n := 0) (q := 8) (by decide +kernel) rfl ?_
    refine vx_getR (b := 670) (idx := 148) (kd := 9) (s := 76) (fin := true) (q := 11) (by decide +kernel) (vx_Tk hT (by decide +kernel)) (vx_Tr hT (kd := 9) (by decide +kernel) (by decide +kernel) (by decide +kernel)) ?_
    refine vx_iconst (n := 4) (q := 12) (by decide +kernel) ?_
    refine vx_iload_n (n := 1) (q := 13) (by decide +kernel) rfl ?_
    refine vx_imul (q := 14) (by decide +kernel) ?_
    refine vx_iload_n (n := 3) (q := 15) (by decide +kernel) rfl ?_
    refine vx_iadd (q := 16) (by decide +kernel) ?_
    obtain ⟨k4, H⟩ := H
    refine vx_laload (z := 810) (q := 17) (by decide +kernel) (vx_Tk hT (by decide +kernel)) (vx_Tz hT (by decide +kernel)) (vx_ix k4 (by decide)) ?_
    refine vx_aload_n (n := 0) (q := 18) (by decide +kernel) rfl ?_
    refine vx_getR (b := 669) (idx := 145) (kd := 9) (s := 74) (fin := true) (q := 21) (by decide +kernel) (vx_Tk hT (by decide +kernel)) (vx_Tr hT (kd := 9) (by decide +kernel) (by decide +kernel) (by decide +kernel)) ?_
    refine vx_iload_n (n := 3) (q := 22) (by decide +kernel) rfl ?_
    obtain ⟨k5, H⟩ := H
    refine vx_laload (z := 4) (q := 23) (by decide +kernel) (vx_Tk hT (by decide +kernel)) (vx_Tz hT (by decide +kernel)) (vx_ix k5 (by decide)) ?_
    refine vx_lc_eq (off := 5) (p := 24) (q := 27) (t := 29) (by decide +kernel) (vx_rL_K h 670 ((4 * v1) + v3).toNat) (vx_rL_K h 669 v3.toNat) (fun c6 => ?_) (fun c6 => ?_)
    · replace H := H.1 c6
      refine vx_iinc (n := 3) (m := 1) (x := v3) (q := 32) (lv' := [some (.ref 625), some (.int (vx_i v1)), some (.int (vx_i v2)), some (.int (vx_i (v3 + 1)))]) (by decide +kernel) rfl rfl ?_
      refine vx_goto (off := (-30)) (q := 35) (t := 2) (by decide +kernel) ?_
      exact H
    · replace H := H.2 c6
      refine vx_iconst (n := 0) (q := 28) (by decide +kernel) ?_
      refine vx_retZ (q := 29) (by decide +kernel) (Or.inl rfl) ?_
      exact H
-- RuleHouseModel.totals(I)V
theorem vg_88 {d : Nat} {h : ve_H} {P : ve_H → Prop} {x1 : Int} (hT : vx_T 625 672 h) (H : (∀ h1, h1 = vx_sJ h 625 75 0 → vx_T 625 672 h1 → (∀ h2, h2 = vx_sJ h1 625 66 1 → vx_T 625 672 h2 → vx_CV d 79 [.ref 625, .int (vx_i x1)] h2 (fun h3 => vx_T 625 672 h3 → (0 ≤ x1 ∧ x1 < 61) ∧ vx_CI d 83 [.ref 625, .int (vx_i (vx_J h3 636 x1.toNat))] h3 (fun r5 h5 => vx_T 625 672 h5 → vx_W (d + 1) 88 28 [some (.ref 625), some (.int (vx_i x1)), some (.int (vx_i r5)), some (.int (vx_i 0)), none] [] h5 (vx_RV P)))))) : vx_CV (d + 1) 88 [.ref 625, .int (vx_i x1)] h P := by
  refine vx_enter (ml := 5) (by decide +kernel) ?_
  show vx_W _ _ 0 [some (.ref 625), some (.int (vx_i x1)), none, none, none] [] h _
  refine vx_aload_n (n := 0) (q := 1) (by decide +kernel) rfl ?_
  refine vx_iconst (n := 0) (q := 2) (by decide +kernel) ?_
  refine vx_putI (idx := 453) (kd := 9) (s := 75) (fin := false) (q := 5) (by decide +kernel) (vx_Tk hT (by decide +kernel)) (fun h1 e1 => ?_)
  have hT1 := vx_TJ hT e1
  replace H := H h1 e1 hT1
  refine vx_aload_n (n := 0) (q := 6) (by decide +kernel) rfl ?_
  refine vx_iconst (n := 1) (q := 7) (by decide +kernel) ?_
  refine vx_putI (idx := 428) (kd := 9) (s := 66) (fin := false) (q := 10) (by decide +kernel) (vx_Tk hT1 (by decide +kernel)) (fun h2 e2 => ?_)
  have hT2 := vx_TJ hT1 e2
  replace H := H h2 e2 hT2
  refine vx_aload_n (n := 0) (q := 11) (by decide +kernel) rfl ?_
  refine vx_iload_n (n := 1) (q := 12) (by decide +kernel) rfl ?_
  refine vx_callV (i := .invokevirtual 459) (how := 3) (cm := 79) (np := 2) (q := 15) (args := [.ref 625, .int (vx_i x1)]) (rest := []) (by decide +kernel) rfl rfl rfl (vx_w2 (w := 2) (ml := 3) rfl (by decide +kernel)) (vx_rcv (kd := 9) (vx_Tk hT2 (by decide +kernel)) (by decide +kernel)) H (fun h3 hs3 H => ?_)
  have hT3 := vx_Tsh hT2 hs3
  replace H := H hT3
  refine vx_aload_n (n := 0) (q := 16) (by decide +kernel) rfl ?_
  refine vx_aload_n (n := 0) (q := 17) (by decide +kernel) rfl ?_
  refine vx_getR (b := 636) (idx := 41) (kd := 9) (s := 17) (fin := true) (q := 20) (by decide +kernel) (vx_Tk hT3 (by decide +kernel)) (vx_Tr hT3 (kd := 9) (by decide +kernel) (by decide +kernel) (by decide +kernel)) ?_
  refine vx_iload_n (n := 1) (q := 21) (by decide +kernel) rfl ?_
  obtain ⟨k4, H⟩ := H
  refine vx_iaload (z := 61) (q := 22) (by decide +kernel) (vx_Tk hT3 (by decide +kernel)) (vx_Tz hT3 (by decide +kernel)) (vx_ix k4 (by decide)) ?_
  refine vx_callI (i := .invokevirtual 440) (how := 3) (cm := 83) (np := 2) (q := 25) (args := [.ref 625, .int (vx_i (vx_J h3 636 x1.toNat))]) (rest := []) (by decide +kernel) rfl rfl rfl (vx_w2 (w := 2) (ml := 2) rfl (by decide +kernel)) (vx_rcv (kd := 9) (vx_Tk hT3 (by decide +kernel)) (by decide +kernel)) H (fun r5 h5 hr5 hs5 H => ?_)
  have hT5 := vx_Tsh hT3 hs5
  replace H := H hT5
  refine vx_istore_n (n := 2) (q := 26) (lv' := [some (.ref 625), some (.int (vx_i x1)), some (.int (vx_i r5)), none, none]) (by decide +kernel) rfl ?_
  refine vx_iconst (n := 0) (q := 27) (by decide +kernel) ?_
  refine vx_istore_n (n := 3) (q := 28) (lv' := [some (.ref 625), some (.int (vx_i x1)), some (.int (vx_i r5)), some (.int (vx_i 0)), none]) (by decide +kernel) rfl ?_
  exact H
theorem vg_88_28 {d : Nat} {h : ve_H} {P : ve_H → Prop} {v1 : Int} {v2 : Int} {v3 : Int} {v4 : Option Value} (hT : vx_T 625 672 h) (H : (vx_rI v3) ∧ (((vx_J h 625 75) ≤ v3 → P h) ∧ (v3 < (vx_J h 625 75) → (((vx_J h 625 68) ≠ 0 → P h) ∧ ((vx_J h 625 68) = 0 → vx_W (d + 1) 88 46 [some (.ref 625), some (.int (vx_i v1)), some (.int (vx_i v2)), some (.int (vx_i v3)), some (.int (vx_i 0))] [] h (vx_RV P)))))) : vx_W (d + 1) 88 28 [some (.ref 625), some (.int (vx_i v1)), some (.int (vx_i v2)), some (.int (vx_i v3)), v4] [] h (vx_RV P) := by
  refine vx_iload_n (n := 3) (q := 29) (by decide +kernel) rfl ?_
  refine vx_aload_n (n := 0) (q := 30) (by decide +kernel) rfl ?_
  refine vx_getI (idx := 453) (kd := 9) (s := 75) (fin := false) (q := 33) (by decide +kernel) (vx_Tk hT (by decide +kernel)) ?_
  obtain ⟨k1, H⟩ := H
  refine vx_icmp_ge (off := 79) (q := 36) (t := 112) (by decide +kernel) k1 (vx_rI_J h 625 75) (fun c2 => ?_) (fun c2 => ?_)
  · replace H := H.1 c2
    refine vx_retV (q := 113) (by decide +kernel) ?_
    exact H
  · replace H := H.2 c2
    refine vx_aload_n (n := 0) (q := 37) (by decide +kernel) rfl ?_
    refine vx_getZ (idx := 422) (kd := 9) (s := 68) (fin := false) (q := 40) (by decide +kernel) (vx_Tk hT (by decide +kernel)) ?_
    refine vx_if0_ne (off := 72) (q := 43) (t := 112) (by decide +kernel) (vx_rI_J h 625 68) (fun c3 => ?_) (fun c3 => ?_)
    · replace H := H.1 c3
      refine vx_retV (q := 113) (by decide +kernel) ?_
      exact H
    · replace H := H.2 c3
      refine vx_iconst (n := 0) (q := 44) (by decide +kernel) ?_
      refine vx_istore (n := 4) (q := 46) (lv' := [some (.ref 625), some (.int (vx_i v1)), some (.int (vx_i v2)), some (.int (vx_i v3)), some (.int (vx_i 0))]) (by decide +kernel) rfl ?_
      exact H
theorem vg_88_46 {d : Nat} {h : ve_H} {P : ve_H → Prop} {v1 : Int} {v2 : Int} {v3 : Int} {v4 : Int} (hT : vx_T 625 672 h) (H : (vx_rI v4) ∧ (vx_rI v2) ∧ ((v2 ≤ v4 → (0 ≤ v1 ∧ v1 < 61) ∧ vx_CV d 84 [.ref 625, .int (vx_i (vx_J h 636 v1.toNat))] h (fun h5 => vx_T 625 672 h5 → vx_W (d + 1) 88 28 [some (.ref 625), some (.int (vx_i v1)), some (.int (vx_i v2)), some (.int (vx_i (v3 + 1))), some (.int (vx_i v4))] [] h5 (vx_RV P))) ∧ (v4 < v2 → (0 ≤ v1 ∧ v1 < 61) ∧ ((v4 ≠ (vx_J h 640 v1.toNat) → (0 ≤ ((4 * v3) + v4) ∧ ((4 * v3) + v4) < 810) ∧ (0 ≤ v4 ∧ v4 < 4) ∧ (∀ h10, h10 = vx_sK h 669 v4.toNat (vx_K h 670 ((4 * v3) + v4).toNat) → vx_T 625 672 h10 → vx_W (d + 1) 88 46 [some (.ref 625), some (.int (vx_i v1)), some (.int (vx_i v2)), some (.int (vx_i v3)), some (.int (vx_i (v4 + 1)))] [] h10 (vx_RV P))) ∧ (v4 = (vx_J h 640 v1.toNat) → (0 ≤ v3 ∧ v3 < 202) ∧ (0 ≤ v4 ∧ v4 < 4) ∧ (∀ h13, h13 = vx_sK h 669 v4.toNat (vx_K h 671 v3.toNat) → vx_T 625 672 h13 → vx_W (d + 1) 88 46 [some (.ref 625), some (.int (vx_i v1)), some (.int (vx_i v2)), some (.int (vx_i v3)), some (.int (vx_i (v4 + 1)))] [] h13 (vx_RV P))))))) : vx_W (d + 1) 88 46 [some (.ref 625), some (.int (vx_i v1)), some (.int (vx_i v2)), some (.int (vx_i v3)), some (.int (vx_i v4))] [] h (vx_RV P) := by
  refine vx_iload (n := 4) (q := 48) (by decide +kernel) rfl ?_
  refine vx_iload_n (n := 2) (q := 49) (by decide +kernel) rfl ?_
  obtain ⟨k1, H⟩ := H
  obtain ⟨k2, H⟩ := H
  refine vx_icmp_ge (off := 47) (q := 52) (t := 96) (by decide +kernel) k1 k2 (fun c3 => ?_) (fun c3 => ?_)
  · replace H := H.1 c3
    refine vx_aload_n (n := 0) (q := 97) (by decide +kernel) rfl ?_
    refine vx_aload_n (n := 0) (q := 98) (by decide +kernel) rfl ?_
    refine vx_getR (b := 636) (idx := 41) (kd := 9) (s := 17) (fin := true) (q := 101) (by decide +kernel) (vx_Tk hT (by decide +kernel)) (vx_Tr hT (kd := 9) (by decide +kernel) (by decide +kernel) (by decide +kernel)) ?_
    refine vx_iload_n (n := 1) (q := 102) (by decide +kernel) rfl ?_
    obtain ⟨k4, H⟩ := H
    refine vx_iaload (z := 61) (q := 103) (by decide +kernel) (vx_Tk hT (by decide +kernel)) (vx_Tz hT (by decide +kernel)) (vx_ix k4 (by decide)) ?_
    refine vx_callV (i := .invokevirtual 450) (how := 3) (cm := 84) (np := 2) (q := 106) (args := [.ref 625, .int (vx_i (vx_J h 636 v1.toNat))]) (rest := []) (by decide +kernel) rfl rfl rfl (vx_w2 (w := 2) (ml := 5) rfl (by decide +kernel)) (vx_rcv (kd := 9) (vx_Tk hT (by decide +kernel)) (by decide +kernel)) H (fun h5 hs5 H => ?_)
    have hT5 := vx_Tsh hT hs5
    replace H := H hT5
    refine vx_iinc (n := 3) (m := 1) (x := v3) (q := 109) (lv' := [some (.ref 625), some (.int (vx_i v1)), some (.int (vx_i v2)), some (.int (vx_i (v3 + 1))), some (.int (vx_i v4))]) (by decide +kernel) rfl rfl ?_
    refine vx_goto (off := (-81)) (q := 112) (t := 28) (by decide +kernel) ?_
    exact H
  · replace H := H.2 c3
    refine vx_aload_n (n := 0) (q := 53) (by decide +kernel) rfl ?_
    refine vx_getR (b := 669) (idx := 145) (kd := 9) (s := 74) (fin := true) (q := 56) (by decide +kernel) (vx_Tk hT (by decide +kernel)) (vx_Tr hT (kd := 9) (by decide +kernel) (by decide +kernel) (by decide +kernel)) ?_
    refine vx_iload (n := 4) (q := 58) (by decide +kernel) rfl ?_
    refine vx_iload (n := 4) (q := 60) (by decide +kernel) rfl ?_
    refine vx_aload_n (n := 0) (q := 61) (by decide +kernel) rfl ?_
    refine vx_getR (b := 640) (idx := 53) (kd := 9) (s := 21) (fin := true) (q := 64) (by decide +kernel) (vx_Tk hT (by decide +kernel)) (vx_Tr hT (kd := 9) (by decide +kernel) (by decide +kernel) (by decide +kernel)) ?_
    refine vx_iload_n (n := 1) (q := 65) (by decide +kernel) rfl ?_
    obtain ⟨k6, H⟩ := H
    refine vx_iaload (z := 61) (q := 66) (by decide +kernel) (vx_Tk hT (by decide +kernel)) (vx_Tz hT (by decide +kernel)) (vx_ix k6 (by decide)) ?_
    refine vx_icmp_ne (off := 12) (q := 69) (t := 78) (by decide +kernel) k1 (vx_rI_J h 640 v1.toNat) (fun c7 => ?_) (fun c7 => ?_)
    · replace H := H.1 c7
      refine vx_aload_n (n := 0) (q := 79) (by decide +kernel) rfl ?_
      refine vx_getR (b := 670) (idx := 148) (kd := 9) (s := 76) (fin := true) (q := 82) (by decide +kernel) (vx_Tk hT (by decide +kernel)) (vx_Tr hT (kd := 9) (by decide +kernel) (by decide +kernel) (by decide +kernel)) ?_
      refine vx_iconst (n := 4) (q := 83) (by decide +kernel) ?_
      refine vx_iload_n (n := 3) (q := 84) (by decide +kernel) rfl ?_
      refine vx_imul (q := 85) (by decide +kernel) ?_
      refine vx_iload (n := 4) (q := 87) (by decide +kernel) rfl ?_
      refine vx_iadd (q := 88) (by decide +kernel) ?_
      obtain ⟨k8, H⟩ := H
      refine vx_laload (z := 810) (q := 89) (by decide +kernel) (vx_Tk hT (by decide +kernel)) (vx_Tz hT (by decide +kernel)) (vx_ix k8 (by decide)) ?_
      obtain ⟨k9, H⟩ := H
      refine vx_lastore (z := 4) (q := 90) (by decide +kernel) (vx_Tk hT (by decide +kernel)) (vx_Tz hT (by decide +kernel)) (vx_ix k9 (by decide)) (fun h10 e10 => ?_)
      have hT10 := vx_TK hT e10
      replace H := H h10 e10 hT10
      refine vx_iinc (n := 4) (m := 1) (x := v4) (q := 93) (lv' := [some (.ref 625), some (.int (vx_i v1)), some (.int (vx_i v2)), some (.int (vx_i v3)), some (.int (vx_i (v4 + 1)))]) (by decide +kernel) rfl rfl ?_
      refine vx_goto (off := (-47)) (q := 96) (t := 46) (by decide +kernel) ?_
      exact H
    · replace H := H.2 c7
      refine vx_aload_n (n := 0) (q := 70) (by decide +kernel) rfl ?_
      refine vx_getR (b := 671) (idx := 151) (kd := 9) (s := 77) (fin := true) (q := 73) (by decide +kernel) (vx_Tk hT (by decide +kernel)) (vx_Tr hT (kd := 9) (by decide +kernel) (by decide +kernel) (by decide +kernel)) ?_
      refine vx_iload_n (n := 3) (q := 74) (by decide +kernel) rfl ?_
      obtain ⟨k11, H⟩ := H
      refine vx_laload (z := 202) (q := 75) (by decide +kernel) (vx_Tk hT (by decide +kernel)) (vx_Tz hT (by decide +kernel)) (vx_ix k11 (by decide)) ?_
      refine vx_goto (off := 14) (q := 78) (t := 89) (by decide +kernel) ?_
      obtain ⟨k12, H⟩ := H
      refine vx_lastore (z := 4) (q := 90) (by decide +kernel) (vx_Tk hT (by decide +kernel)) (vx_Tz hT (by decide +kernel)) (vx_ix k12 (by decide)) (fun h13 e13 => ?_)
      have hT13 := vx_TK hT e13
      replace H := H h13 e13 hT13
      refine vx_iinc (n := 4) (m := 1) (x := v4) (q := 93) (lv' := [some (.ref 625), some (.int (vx_i v1)), some (.int (vx_i v2)), some (.int (vx_i v3)), some (.int (vx_i (v4 + 1)))]) (by decide +kernel) rfl rfl ?_
      refine vx_goto (off := (-47)) (q := 96) (t := 46) (by decide +kernel) ?_
      exact H
