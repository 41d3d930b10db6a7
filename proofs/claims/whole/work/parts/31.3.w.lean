/-! Printed by my own program (wip/whole/gen_seg.py): walks of methods 145-170 -/
-- RuleHouse$Reader.readProgram(LRuleHouse$Program;)V
theorem vg_145 {d : Nat} {h : ve_H} {P : ve_H → Prop} {a1 : Nat} (o1 : vx_o 1 625 5 a1) (hT : vx_T 1 625 h) (H : vx_CV d 148 [.ref 7, .ref a1, .int (vx_i 1)] h (fun h1 => vx_T 1 625 h1 → vx_CV d 135 [.ref a1] h1 (fun h2 => vx_T 1 625 h2 → vx_W (d + 1) 145 14 [some (.ref 7), some (.ref a1), some (.int (vx_i 1)), some (.int (vx_i 0))] [] h2 (vx_RV P)))) : vx_CV (d + 1) 145 [.ref 7, .ref a1] h P := by
  refine vx_enter (ml := 4) (by decide +kernel) ?_
  show vx_W _ _ 0 [some (.ref 7), some (.ref a1), none, none] [] h _
  refine vx_aload_n (n := 0) (q := 1) (by decide +kernel) rfl ?_
  refine vx_aload_n (n := 1) (q := 2) (by decide +kernel) rfl ?_
  refine vx_iconst (n := 1) (q := 3) (by decide +kernel) ?_
  refine vx_callV (i := .invokevirtual 39) (how := 3) (cm := 148) (np := 3) (q := 6) (args := [.ref 7, .ref a1, .int (vx_i 1)]) (rest := []) (by decide +kernel) rfl rfl rfl (vx_w2 (w := 3) (ml := 3) rfl (by decide +kernel)) (vx_rcv (kd := 3) (vx_Tk hT (by decide +kernel)) (by decide +kernel)) H (fun h1 hs1 H => ?_)
  have hT1 := vx_Tsh hT hs1
  replace H := H hT1
  refine vx_aload_n (n := 1) (q := 7) (by decide +kernel) rfl ?_
  refine vx_callV (i := .invokevirtual 43) (how := 3) (cm := 135) (np := 1) (q := 10) (args := [.ref a1]) (rest := []) (by decide +kernel) rfl rfl rfl (vx_w2 (w := 1) (ml := 1) rfl (by decide +kernel)) (vx_rcv (kd := 5) (vx_Tk hT1 o1) (by decide +kernel)) H (fun h2 hs2 H => ?_)
  have hT2 := vx_Tsh hT1 hs2
  replace H := H hT2
  refine vx_iconst (n := 1) (q := 11) (by decide +kernel) ?_
  refine vx_istore_n (n := 2) (q := 12) (lv' := [some (.ref 7), some (.ref a1), some (.int (vx_i 1)), none]) (by decide +kernel) rfl ?_
  refine vx_iconst (n := 0) (q := 13) (by decide +kernel) ?_
  refine vx_istore_n (n := 3) (q := 14) (lv' := [some (.ref 7), some (.ref a1), some (.int (vx_i 1)), some (.int (vx_i 0))]) (by decide +kernel) rfl ?_
  exact H
theorem vg_145_14 {d : Nat} {h : ve_H} {P : ve_H → Prop} {v1 : Nat} (ov1 : vx_o 1 625 5 v1) {v2 : Int} {v3 : Int} (hT : vx_T 1 625 h) (H : (vx_rI v3) ∧ ((600 ≤ v3 → (((vx_J h 7 11) = 0 → vx_CV d 139 [.ref v1] h (fun h4 => vx_T 1 625 h4 → vx_CI d 140 [.ref v1] h4 (fun r5 h5 => vx_T 1 625 h5 → ((r5 = ((-1)) → vx_CV d 142 [.ref v1] h5 (fun h7 => vx_T 1 625 h7 → P h7)) ∧ (r5 ≠ ((-1)) → vx_CV d 167 [.ref 7, .int (vx_i 4), .int (vx_i r5)] h5 (fun h8 => vx_T 1 625 h8 → P h8)))))) ∧ ((vx_J h 7 11) ≠ 0 → P h))) ∧ (v3 < 600 → (vx_rI v2) ∧ ((v2 = 0 → (((vx_J h 7 11) = 0 → vx_CV d 139 [.ref v1] h (fun h12 => vx_T 1 625 h12 → vx_CI d 140 [.ref v1] h12 (fun r13 h13 => vx_T 1 625 h13 → ((r13 = ((-1)) → vx_CV d 142 [.ref v1] h13 (fun h15 => vx_T 1 625 h15 → P h15)) ∧ (r13 ≠ ((-1)) → vx_CV d 167 [.ref 7, .int (vx_i 4), .int (vx_i r13)] h13 (fun h16 => vx_T 1 625 h16 → P h16)))))) ∧ ((vx_J h 7 11) ≠ 0 → P h))) ∧ (v2 ≠ 0 → vx_CI d 162 [.ref 7] h (fun r17 h17 => vx_T 1 625 h17 → ((r17 = 0 → (((vx_J h17 7 11) = 0 → vx_CV d 139 [.ref v1] h17 (fun h20 => vx_T 1 625 h20 → vx_CI d 140 [.ref v1] h20 (fun r21 h21 => vx_T 1 625 h21 → ((r21 = ((-1)) → vx_CV d 142 [.ref v1] h21 (fun h23 => vx_T 1 625 h23 → P h23)) ∧ (r21 ≠ ((-1)) → vx_CV d 167 [.ref 7, .int (vx_i 4), .int (vx_i r21)] h21 (fun h24 => vx_T 1 625 h24 → P h24)))))) ∧ ((vx_J h17 7 11) ≠ 0 → P h17))) ∧ (r17 ≠ 0 → vx_CI d 150 [.ref 7] h17 (fun r25 h25 => vx_T 1 625 h25 → vx_W (d + 1) 145 14 [some (.ref 7), some (.ref v1), some (.int (vx_i r25)), some (.int (vx_i (v3 + 1)))] [] h25 (vx_RV P)))))))))) : vx_W (d + 1) 145 14 [some (.ref 7), some (.ref v1), some (.int (vx_i v2)), some (.int (vx_i v3))] [] h (vx_RV P) := by
  refine vx_iload_n (n := 3) (q := 15) (by decide +kernel) rfl ?_
  refine vx_sipush (n := 600) (q := 18) (by decide +kernel) ?_
  obtain ⟨k1, H⟩ := H
  refine vx_icmp_ge (off := 25) (q := 21) (t := 43) (by decide +kernel) k1 (by decide) (fun c2 => ?_) (fun c2 => ?_)
  · replace H := H.1 c2
    refine vx_aload_n (n := 0) (q := 44) (by decide +kernel) rfl ?_
    refine vx_getI (idx := 56) (kd := 3) (s := 11) (fin := false) (q := 47) (by decide +kernel) (vx_Tk hT (by decide +kernel)) ?_
    refine vx_if0_eq (off := 4) (q := 50) (t := 51) (by decide +kernel) (vx_rI_J h 7 11) (fun c3 => ?_) (fun c3 => ?_)
    · replace H := H.1 c3
      refine vx_aload_n (n := 1) (q := 52) (by decide +kernel) rfl ?_
      refine vx_callV (i := .invokevirtual 60) (how := 3) (cm := 139) (np := 1) (q := 55) (args := [.ref v1]) (rest := []) (by decide +kernel) rfl rfl rfl (vx_w2 (w := 1) (ml := 3) rfl (by decide +kernel)) (vx_rcv (kd := 5) (vx_Tk hT ov1) (by decide +kernel)) H (fun h4 hs4 H => ?_)
      have hT4 := vx_Tsh hT hs4
      replace H := H hT4
      refine vx_aload_n (n := 1) (q := 56) (by decide +kernel) rfl ?_
      refine vx_callI (i := .invokevirtual 63) (how := 3) (cm := 140) (np := 1) (q := 59) (args := [.ref v1]) (rest := []) (by decide +kernel) rfl rfl rfl (vx_w2 (w := 1) (ml := 4) rfl (by decide +kernel)) (vx_rcv (kd := 5) (vx_Tk hT4 ov1) (by decide +kernel)) H (fun r5 h5 hr5 hs5 H => ?_)
      have hT5 := vx_Tsh hT4 hs5
      replace H := H hT5
      refine vx_istore_n (n := 3) (q := 60) (lv' := [some (.ref 7), some (.ref v1), some (.int (vx_i v2)), some (.int (vx_i r5))]) (by decide +kernel) rfl ?_
      refine vx_iload_n (n := 3) (q := 61) (by decide +kernel) rfl ?_
      refine vx_iconst (n := (-1)) (q := 62) (by decide +kernel) ?_
      refine vx_icmp_eq (off := 10) (q := 65) (t := 72) (by decide +kernel) hr5 (by decide) (fun c6 => ?_) (fun c6 => ?_)
      · replace H := H.1 c6
        refine vx_aload_n (n := 1) (q := 73) (by decide +kernel) rfl ?_
        refine vx_callV (i := .invokevirtual 70) (how := 3) (cm := 142) (np := 1) (q := 76) (args := [.ref v1]) (rest := []) (by decide +kernel) rfl rfl rfl (vx_w2 (w := 1) (ml := 4) rfl (by decide +kernel)) (vx_rcv (kd := 5) (vx_Tk hT5 ov1) (by decide +kernel)) H (fun h7 hs7 H => ?_)
        have hT7 := vx_Tsh hT5 hs7
        replace H := H hT7
        refine vx_retV (q := 77) (by decide +kernel) ?_
        exact H
      · replace H := H.2 c6
        refine vx_aload_n (n := 0) (q := 66) (by decide +kernel) rfl ?_
        refine vx_iconst (n := 4) (q := 67) (by decide +kernel) ?_
        refine vx_iload_n (n := 3) (q := 68) (by decide +kernel) rfl ?_
        refine vx_callV (i := .invokevirtual 66) (how := 3) (cm := 167) (np := 3) (q := 71) (args := [.ref 7, .int (vx_i 4), .int (vx_i r5)]) (rest := []) (by decide +kernel) rfl rfl rfl (vx_w2 (w := 3) (ml := 3) rfl (by decide +kernel)) (vx_rcv (kd := 3) (vx_Tk hT5 (by decide +kernel)) (by decide +kernel)) H (fun h8 hs8 H => ?_)
        have hT8 := vx_Tsh hT5 hs8
        replace H := H hT8
        refine vx_retV (q := 72) (by decide +kernel) ?_
        exact H
    · replace H := H.2 c3
      refine vx_retV (q := 51) (by decide +kernel) ?_
      exact H
  · replace H := H.2 c2
    refine vx_iload_n (n := 2) (q := 22) (by decide +kernel) rfl ?_
    obtain ⟨k9, H⟩ := H
    refine vx_if0_eq (off := 21) (q := 25) (t := 43) (by decide +kernel) k9 (fun c10 => ?_) (fun c10 => ?_)
    · replace H := H.1 c10
      refine vx_aload_n (n := 0) (q := 44) (by decide +kernel) rfl ?_
      refine vx_getI (idx := 56) (kd := 3) (s := 11) (fin := false) (q := 47) (by decide +kernel) (vx_Tk hT (by decide +kernel)) ?_
      refine vx_if0_eq (off := 4) (q := 50) (t := 51) (by decide +kernel) (vx_rI_J h 7 11) (fun c11 => ?_) (fun c11 => ?_)
      · replace H := H.1 c11
        refine vx_aload_n (n := 1) (q := 52) (by decide +kernel) rfl ?_
        refine vx_callV (i := .invokevirtual 60) (how := 3) (cm := 139) (np := 1) (q := 55) (args := [.ref v1]) (rest := []) (by decide +kernel) rfl rfl rfl (vx_w2 (w := 1) (ml := 3) rfl (by decide +kernel)) (vx_rcv (kd := 5) (vx_Tk hT ov1) (by decide +kernel)) H (fun h12 hs12 H => ?_)
        have hT12 := vx_Tsh hT hs12
        replace H := H hT12
        refine vx_aload_n (n := 1) (q := 56) (by decide +kernel) rfl ?_
        refine vx_callI (i := .invokevirtual 63) (how := 3) (cm := 140) (np := 1) (q := 59) (args := [.ref v1]) (rest := []) (by decide +kernel) rfl rfl rfl (vx_w2 (w := 1) (ml := 4) rfl (by decide +kernel)) (vx_rcv (kd := 5) (vx_Tk hT12 ov1) (by decide +kernel)) H (fun r13 h13 hr13 hs13 H => ?_)
        have hT13 := vx_Tsh hT12 hs13
        replace H := H hT13
        refine vx_istore_n (n := 3) (q := 60) (lv' := [some (.ref 7), some (.ref v1), some (.int (vx_i v2)), some (.int (vx_i r13))]) (by decide +kernel) rfl ?_
        refine vx_iload_n (n := 3) (q := 61) (by decide +kernel) rfl ?_
        refine vx_iconst (n := (-1)) (q := 62) (by decide +kernel) ?_
        refine vx_icmp_eq (off := 10) (q := 65) (t := 72) (by decide +kernel) hr13 (by decide) (fun c14 => ?_) (fun c14 => ?_)
        · replace H := H.1 c14
          refine vx_aload_n (n := 1) (q := 73) (by decide +kernel) rfl ?_
          refine vx_callV (i := .invokevirtual 70) (how := 3) (cm := 142) (np := 1) (q := 76) (args := [.ref v1]) (rest := []) (by decide +kernel) rfl rfl rfl (vx_w2 (w := 1) (ml := 4) rfl (by decide +kernel)) (vx_rcv (kd := 5) (vx_Tk hT13 ov1) (by decide +kernel)) H (fun h15 hs15 H => ?_)
          have hT15 := vx_Tsh hT13 hs15
          replace H := H hT15
          refine vx_retV (q := 77) (by decide +kernel) ?_
          exact H
        · replace H := H.2 c14
          refine vx_aload_n (n := 0) (q := 66) (by decide +kernel) rfl ?_
          refine vx_iconst (n := 4) (q := 67) (by decide +kernel) ?_
          refine vx_iload_n (n := 3) (q := 68) (by decide +kernel) rfl ?_
          refine vx_callV (i := .invokevirtual 66) (how := 3) (cm := 167) (np := 3) (q := 71) (args := [.ref 7, .int (vx_i 4), .int (vx_i r13)]) (rest := []) (by decide +kernel) rfl rfl rfl (vx_w2 (w := 3) (ml := 3) rfl (by decide +kernel)) (vx_rcv (kd := 3) (vx_Tk hT13 (by decide +kernel)) (by decide +kernel)) H (fun h16 hs16 H => ?_)
          have hT16 := vx_Tsh hT13 hs16
          replace H := H hT16
          refine vx_retV (q := 72) (by decide +kernel) ?_
          exact H
      · replace H := H.2 c11
        refine vx_retV (q := 51) (by decide +kernel) ?_
        exact H
    · replace H := H.2 c10
      refine vx_aload_n (n := 0) (q := 26) (by decide +kernel) rfl ?_
      refine vx_callI (i := .invokevirtual 48) (how := 3) (cm := 162) (np := 1) (q := 29) (args := [.ref 7]) (rest := []) (by decide +kernel) rfl rfl rfl (vx_w2 (w := 1) (ml := 1) rfl (by decide +kernel)) (vx_rcv (kd := 3) (vx_Tk hT (by decide +kernel)) (by decide +kernel)) H (fun r17 h17 hr17 hs17 H => ?_)
      have hT17 := vx_Tsh hT hs17
      replace H := H hT17
      refine vx_if0_eq (off := 14) (q := 32) (t := 43) (by decide +kernel) hr17 (fun c18 => ?_) (fun c18 => ?_)
      · replace H := H.1 c18
        refine vx_aload_n (n := 0) (q := 44) (by decide +kernel) rfl ?_
        refine vx_getI (idx := 56) (kd := 3) (s := 11) (fin := false) (q := 47) (by decide +kernel) (vx_Tk hT17 (by decide +kernel)) ?_
        refine vx_if0_eq (off := 4) (q := 50) (t := 51) (by decide +kernel) (vx_rI_J h17 7 11) (fun c19 => ?_) (fun c19 => ?_)
        · replace H := H.1 c19
          refine vx_aload_n (n := 1) (q := 52) (by decide +kernel) rfl ?_
          refine vx_callV (i := .invokevirtual 60) (how := 3) (cm := 139) (np := 1) (q := 55) (args := [.ref v1]) (rest := []) (by decide +kernel) rfl rfl rfl (vx_w2 (w := 1) (ml := 3) rfl (by decide +kernel)) (vx_rcv (kd := 5) (vx_Tk hT17 ov1) (by decide +kernel)) H (fun h20 hs20 H => ?_)
          have hT20 := vx_Tsh hT17 hs20
          replace H := H hT20
          refine vx_aload_n (n := 1) (q := 56) (by decide +kernel) rfl ?_
          refine vx_callI (i := .invokevirtual 63) (how := 3) (cm := 140) (np := 1) (q := 59) (args := [.ref v1]) (rest := []) (by decide +kernel) rfl rfl rfl (vx_w2 (w := 1) (ml := 4) rfl (by decide +kernel)) (vx_rcv (kd := 5) (vx_Tk hT20 ov1) (by decide +kernel)) H (fun r21 h21 hr21 hs21 H => ?_)
          have hT21 := vx_Tsh hT20 hs21
          replace H := H hT21
          refine vx_istore_n (n := 3) (q := 60) (lv' := [some (.ref 7), some (.ref v1), some (.int (vx_i v2)), some (.int (vx_i r21))]) (by decide +kernel) rfl ?_
          refine vx_iload_n (n := 3) (q := 61) (by decide +kernel) rfl ?_
          refine vx_iconst (n := (-1)) (q := 62) (by decide +kernel) ?_
          refine vx_icmp_eq (off := 10) (q := 65) (t := 72) (by decide +kernel) hr21 (by decide) (fun c22 => ?_) (fun c22 => ?_)
          · replace H := H.1 c22
            refine vx_aload_n (n := 1) (q := 73) (by decide +kernel) rfl ?_
            refine vx_callV (i := .invokevirtual 70) (how := 3) (cm := 142) (np := 1) (q := 76) (args := [.ref v1]) (rest := []) (by decide +kernel) rfl rfl rfl (vx_w2 (w := 1) (ml := 4) rfl (by decide +kernel)) (vx_rcv (kd := 5) (vx_Tk hT21 ov1) (by decide +kernel)) H (fun h23 hs23 H => ?_)
            have hT23 := vx_Tsh hT21 hs23
            replace H := H hT23
            refine vx_retV (q := 77) (by decide +kernel) ?_
            exact H
          · replace H := H.2 c22
            refine vx_aload_n (n := 0) (q := 66) (by decide +kernel) rfl ?_
            refine vx_iconst (n := 4) (q := 67) (by decide +kernel) ?_
            refine vx_iload_n (n := 3) (q := 68) (by decide +kernel) rfl ?_
            refine vx_callV (i := .invokevirtual 66) (how := 3) (cm := 167) (np := 3) (q := 71) (args := [.ref 7, .int (vx_i 4), .int (vx_i r21)]) (rest := []) (by decide +kernel) rfl rfl rfl (vx_w2 (w := 3) (ml := 3) rfl (by decide +kernel)) (vx_rcv (kd := 3) (vx_Tk hT21 (by decide +kernel)) (by decide +kernel)) H (fun h24 hs24 H => ?_)
            have hT24 := vx_Tsh hT21 hs24
            replace H := H hT24
            refine vx_retV (q := 72) (by decide +kernel) ?_
            exact H
        · replace H := H.2 c19
          refine vx_retV (q := 51) (by decide +kernel) ?_
          exact H
      · replace H := H.2 c18
        refine vx_aload_n (n := 0) (q := 33) (by decide +kernel) rfl ?_
        refine vx_callI (i := .invokevirtual 52) (how := 3) (cm := 150) (np := 1) (q := 36) (args := [.ref 7]) (rest := []) (by decide +kernel) rfl rfl rfl (vx_w2 (w := 1) (ml := 3) rfl (by decide +kernel)) (vx_rcv (kd := 3) (vx_Tk hT17 (by decide +kernel)) (by decide +kernel)) H (fun r25 h25 hr25 hs25 H => ?_)
        have hT25 := vx_Tsh hT17 hs25
        replace H := H hT25
        refine vx_istore_n (n := 2) (q := 37) (lv' := [some (.ref 7), some (.ref v1), some (.int (vx_i r25)), some (.int (vx_i v3))]) (by decide +kernel) rfl ?_
        refine vx_iinc (n := 3) (m := 1) (x := v3) (q := 40) (lv' := [some (.ref 7), some (.ref v1), some (.int (vx_i r25)), some (.int (vx_i (v3 + 1)))]) (by decide +kernel) rfl rfl ?_
        refine vx_goto (off := (-26)) (q := 43) (t := 14) (by decide +kernel) ?_
        exact H
-- RuleHouse$Reader.readFact(LRuleHouse$Program;)V
theorem vg_146 {d : Nat} {h : ve_H} {P : ve_H → Prop} {a1 : Nat} (o1 : vx_o 1 625 5 a1) (hT : vx_T 1 625 h) (H : vx_CV d 148 [.ref 7, .ref a1, .int (vx_i 0)] h (fun h1 => vx_T 1 625 h1 → vx_CV d 149 [.ref 7, .ref 8] h1 (fun h2 => vx_T 1 625 h2 → vx_CI d 157 [.ref 7, .int (vx_i 16)] h2 (fun r3 h3 => vx_T 1 625 h3 → ((r3 = 0 → P h3) ∧ (r3 ≠ 0 → vx_CI d 165 [.ref 7, .int (vx_i 46)] h3 (fun r5 h5 => vx_T 1 625 h5 → ((r5 = 0 → P h5) ∧ (r5 ≠ 0 → vx_CI d 151 [.ref 7] h5 (fun r7 h7 => vx_T 1 625 h7 → ((r7 = 0 → P h7) ∧ (r7 ≠ 0 → vx_CI d 152 [.ref 7] h7 (fun r9 h9 => vx_T 1 625 h9 → P h9))))))))))))) : vx_CV (d + 1) 146 [.ref 7, .ref a1] h P := by
  refine vx_enter (ml := 2) (by decide +kernel) ?_
  show vx_W _ _ 0 [some (.ref 7), some (.ref a1)] [] h _
  refine vx_aload_n (n := 0) (q := 1) (by decide +kernel) rfl ?_
  refine vx_aload_n (n := 1) (q := 2) (by decide +kernel) rfl ?_
  refine vx_iconst (n := 0) (q := 3) (by decide +kernel) ?_
  refine vx_callV (i := .invokevirtual 39) (how := 3) (cm := 148) (np := 3) (q := 6) (args := [.ref 7, .ref a1, .int (vx_i 0)]) (rest := []) (by decide +kernel) rfl rfl rfl (vx_w2 (w := 3) (ml := 3) rfl (by decide +kernel)) (vx_rcv (kd := 3) (vx_Tk hT (by decide +kernel)) (by decide +kernel)) H (fun h1 hs1 H => ?_)
  have hT1 := vx_Tsh hT hs1
  replace H := H hT1
  refine vx_aload_n (n := 0) (q := 7) (by decide +kernel) rfl ?_
  refine vx_aload_n (n := 0) (q := 8) (by decide +kernel) rfl ?_
  refine vx_getR (b := 8) (idx := 12) (kd := 3) (s := 1) (fin := true) (q := 11) (by decide +kernel) (vx_Tk hT1 (by decide +kernel)) (vx_Tr hT1 (kd := 3) (by decide +kernel) (by decide +kernel) (by decide +kernel)) ?_
  refine vx_callV (i := .invokevirtual 73) (how := 3) (cm := 149) (np := 2) (q := 14) (args := [.ref 7, .ref 8]) (rest := []) (by decide +kernel) rfl rfl rfl (vx_w2 (w := 2) (ml := 2) rfl (by decide +kernel)) (vx_rcv (kd := 3) (vx_Tk hT1 (by decide +kernel)) (by decide +kernel)) H (fun h2 hs2 H => ?_)
  have hT2 := vx_Tsh hT1 hs2
  replace H := H hT2
  refine vx_aload_n (n := 0) (q := 15) (by decide +kernel) rfl ?_
  refine vx_bipush (n := 16) (q := 17) (by decide +kernel) ?_
  refine vx_callI (i := .invokevirtual 77) (how := 3) (cm := 157) (np := 2) (q := 20) (args := [.ref 7, .int (vx_i 16)]) (rest := []) (by decide +kernel) rfl rfl rfl (vx_w2 (w := 2) (ml := 7) rfl (by decide +kernel)) (vx_rcv (kd := 3) (vx_Tk hT2 (by decide +kernel)) (by decide +kernel)) H (fun r3 h3 hr3 hs3 H => ?_)
  have hT3 := vx_Tsh hT2 hs3
  replace H := H hT3
  refine vx_if0_eq (off := 24) (q := 23) (t := 44) (by decide +kernel) hr3 (fun c4 => ?_) (fun c4 => ?_)
  · replace H := H.1 c4
    refine vx_retV (q := 45) (by decide +kernel) ?_
    exact H
  · replace H := H.2 c4
    refine vx_aload_n (n := 0) (q := 24) (by decide +kernel) rfl ?_
    refine vx_bipush (n := 46) (q := 26) (by decide +kernel) ?_
    refine vx_callI (i := .invokevirtual 81) (how := 3) (cm := 165) (np := 2) (q := 29) (args := [.ref 7, .int (vx_i 46)]) (rest := []) (by decide +kernel) rfl rfl rfl (vx_w2 (w := 2) (ml := 2) rfl (by decide +kernel)) (vx_rcv (kd := 3) (vx_Tk hT3 (by decide +kernel)) (by decide +kernel)) H (fun r5 h5 hr5 hs5 H => ?_)
    have hT5 := vx_Tsh hT3 hs5
    replace H := H hT5
    refine vx_if0_eq (off := 15) (q := 32) (t := 44) (by decide +kernel) hr5 (fun c6 => ?_) (fun c6 => ?_)
    · replace H := H.1 c6
      refine vx_retV (q := 45) (by decide +kernel) ?_
      exact H
    · replace H := H.2 c6
      refine vx_aload_n (n := 0) (q := 33) (by decide +kernel) rfl ?_
      refine vx_callI (i := .invokevirtual 84) (how := 3) (cm := 151) (np := 1) (q := 36) (args := [.ref 7]) (rest := []) (by decide +kernel) rfl rfl rfl (vx_w2 (w := 1) (ml := 2) rfl (by decide +kernel)) (vx_rcv (kd := 3) (vx_Tk hT5 (by decide +kernel)) (by decide +kernel)) H (fun r7 h7 hr7 hs7 H => ?_)
      have hT7 := vx_Tsh hT5 hs7
      replace H := H hT7
      refine vx_if0_eq (off := 8) (q := 39) (t := 44) (by decide +kernel) hr7 (fun c8 => ?_) (fun c8 => ?_)
      · replace H := H.1 c8
        refine vx_retV (q := 45) (by decide +kernel) ?_
        exact H
      · replace H := H.2 c8
        refine vx_aload_n (n := 0) (q := 40) (by decide +kernel) rfl ?_
        refine vx_callI (i := .invokevirtual 87) (how := 3) (cm := 152) (np := 1) (q := 43) (args := [.ref 7]) (rest := []) (by decide +kernel) rfl rfl rfl (vx_w2 (w := 1) (ml := 1) rfl (by decide +kernel)) (vx_rcv (kd := 3) (vx_Tk hT7 (by decide +kernel)) (by decide +kernel)) H (fun r9 h9 hr9 hs9 H => ?_)
        have hT9 := vx_Tsh hT7 hs9
        replace H := H hT9
        refine vx_popI (q := 44) (by decide +kernel) ?_
        refine vx_retV (q := 45) (by decide +kernel) ?_
        exact H
-- RuleHouse$Reader.readQuestion(LRuleHouse$Program;)V
theorem vg_147 {d : Nat} {h : ve_H} {P : ve_H → Prop} {a1 : Nat} (o1 : vx_o 1 625 5 a1) (hT : vx_T 1 625 h) (H : vx_CV d 148 [.ref 7, .ref a1, .int (vx_i 0)] h (fun h1 => vx_T 1 625 h1 → vx_CV d 149 [.ref 7, .ref 8] h1 (fun h2 => vx_T 1 625 h2 → vx_CI d 154 [.ref 7] h2 (fun r3 h3 => vx_T 1 625 h3 → ((r3 = 0 → P h3) ∧ (r3 ≠ 0 → vx_CI d 165 [.ref 7, .int (vx_i 63)] h3 (fun r5 h5 => vx_T 1 625 h5 → ((r5 = 0 → P h5) ∧ (r5 ≠ 0 → vx_CI d 152 [.ref 7] h5 (fun r7 h7 => vx_T 1 625 h7 → ((r7 = 0 → P h7) ∧ (r7 ≠ 0 → (∃ b9, ve_R h7 7 8 = some b9 ∧ vx_o 1 625 7 b9 ∧ vx_CI d 185 [.ref b9] h7 (fun r10 h10 => vx_T 1 625 h10 → vx_CV d 153 [.ref 7, .int (vx_i r10)] h10 (fun h11 => vx_T 1 625 h11 → P h11))))))))))))))) : vx_CV (d + 1) 147 [.ref 7, .ref a1] h P := by
  refine vx_enter (ml := 2) (by decide +kernel) ?_
  show vx_W _ _ 0 [some (.ref 7), some (.ref a1)] [] h _
  refine vx_aload_n (n := 0) (q := 1) (by decide +kernel) rfl ?_
  refine vx_aload_n (n := 1) (q := 2) (by decide +kernel) rfl ?_
  refine vx_iconst (n := 0) (q := 3) (by decide +kernel) ?_
  refine vx_callV (i := .invokevirtual 39) (how := 3) (cm := 148) (np := 3) (q := 6) (args := [.ref 7, .ref a1, .int (vx_i 0)]) (rest := []) (by decide +kernel) rfl rfl rfl (vx_w2 (w := 3) (ml := 3) rfl (by decide +kernel)) (vx_rcv (kd := 3) (vx_Tk hT (by decide +kernel)) (by decide +kernel)) H (fun h1 hs1 H => ?_)
  have hT1 := vx_Tsh hT hs1
  replace H := H hT1
  refine vx_aload_n (n := 0) (q := 7) (by decide +kernel) rfl ?_
  refine vx_aload_n (n := 0) (q := 8) (by decide +kernel) rfl ?_
  refine vx_getR (b := 8) (idx := 12) (kd := 3) (s := 1) (fin := true) (q := 11) (by decide +kernel) (vx_Tk hT1 (by decide +kernel)) (vx_Tr hT1 (kd := 3) (by decide +kernel) (by decide +kernel) (by decide +kernel)) ?_
  refine vx_callV (i := .invokevirtual 73) (how := 3) (cm := 149) (np := 2) (q := 14) (args := [.ref 7, .ref 8]) (rest := []) (by decide +kernel) rfl rfl rfl (vx_w2 (w := 2) (ml := 2) rfl (by decide +kernel)) (vx_rcv (kd := 3) (vx_Tk hT1 (by decide +kernel)) (by decide +kernel)) H (fun h2 hs2 H => ?_)
  have hT2 := vx_Tsh hT1 hs2
  replace H := H hT2
  refine vx_aload_n (n := 0) (q := 15) (by decide +kernel) rfl ?_
  refine vx_callI (i := .invokevirtual 90) (how := 3) (cm := 154) (np := 1) (q := 18) (args := [.ref 7]) (rest := []) (by decide +kernel) rfl rfl rfl (vx_w2 (w := 1) (ml := 3) rfl (by decide +kernel)) (vx_rcv (kd := 3) (vx_Tk hT2 (by decide +kernel)) (by decide +kernel)) H (fun r3 h3 hr3 hs3 H => ?_)
  have hT3 := vx_Tsh hT2 hs3
  replace H := H hT3
  refine vx_if0_eq (off := 30) (q := 21) (t := 48) (by decide +kernel) hr3 (fun c4 => ?_) (fun c4 => ?_)
  · replace H := H.1 c4
    refine vx_retV (q := 49) (by decide +kernel) ?_
    exact H
  · replace H := H.2 c4
    refine vx_aload_n (n := 0) (q := 22) (by decide +kernel) rfl ?_
    refine vx_bipush (n := 63) (q := 24) (by decide +kernel) ?_
    refine vx_callI (i := .invokevirtual 81) (how := 3) (cm := 165) (np := 2) (q := 27) (args := [.ref 7, .int (vx_i 63)]) (rest := []) (by decide +kernel) rfl rfl rfl (vx_w2 (w := 2) (ml := 2) rfl (by decide +kernel)) (vx_rcv (kd := 3) (vx_Tk hT3 (by decide +kernel)) (by decide +kernel)) H (fun r5 h5 hr5 hs5 H => ?_)
    have hT5 := vx_Tsh hT3 hs5
    replace H := H hT5
    refine vx_if0_eq (off := 21) (q := 30) (t := 48) (by decide +kernel) hr5 (fun c6 => ?_) (fun c6 => ?_)
    · replace H := H.1 c6
      refine vx_retV (q := 49) (by decide +kernel) ?_
      exact H
    · replace H := H.2 c6
      refine vx_aload_n (n := 0) (q := 31) (by decide +kernel) rfl ?_
      refine vx_callI (i := .invokevirtual 87) (how := 3) (cm := 152) (np := 1) (q := 34) (args := [.ref 7]) (rest := []) (by decide +kernel) rfl rfl rfl (vx_w2 (w := 1) (ml := 1) rfl (by decide +kernel)) (vx_rcv (kd := 3) (vx_Tk hT5 (by decide +kernel)) (by decide +kernel)) H (fun r7 h7 hr7 hs7 H => ?_)
      have hT7 := vx_Tsh hT5 hs7
      replace H := H hT7
      refine vx_if0_eq (off := 14) (q := 37) (t := 48) (by decide +kernel) hr7 (fun c8 => ?_) (fun c8 => ?_)
      · replace H := H.1 c8
        refine vx_retV (q := 49) (by decide +kernel) ?_
        exact H
      · replace H := H.2 c8
        refine vx_aload_n (n := 0) (q := 38) (by decide +kernel) rfl ?_
        refine vx_aload_n (n := 0) (q := 39) (by decide +kernel) rfl ?_
        obtain ⟨b9, eb9, ob9, H⟩ := H
        refine vx_getR (b := b9) (idx := 36) (kd := 3) (s := 8) (fin := false) (q := 42) (by decide +kernel) (vx_Tk hT7 (by decide +kernel)) eb9 ?_
        refine vx_callI (i := .invokevirtual 93) (how := 3) (cm := 185) (np := 1) (q := 45) (args := [.ref b9]) (rest := [.ref 7]) (by decide +kernel) rfl rfl rfl (vx_w2 (w := 1) (ml := 6) rfl (by decide +kernel)) (vx_rcv (kd := 7) (vx_Tk hT7 ob9) (by decide +kernel)) H (fun r10 h10 hr10 hs10 H => ?_)
        have hT10 := vx_Tsh hT7 hs10
        replace H := H hT10
        refine vx_callV (i := .invokevirtual 96) (how := 3) (cm := 153) (np := 2) (q := 48) (args := [.ref 7, .int (vx_i r10)]) (rest := []) (by decide +kernel) rfl rfl rfl (vx_w2 (w := 2) (ml := 3) rfl (by decide +kernel)) (vx_rcv (kd := 3) (vx_Tk hT10 (by decide +kernel)) (by decide +kernel)) H (fun h11 hs11 H => ?_)
        have hT11 := vx_Tsh hT10 hs11
        replace H := H hT11
        refine vx_retV (q := 49) (by decide +kernel) ?_
        exact H
-- RuleHouse$Reader.start(LRuleHouse$Program;Z)V
theorem vg_148 {d : Nat} {h : ve_H} {P : ve_H → Prop} {a1 : Nat} (o1 : vx_o 1 625 5 a1) {x2 : Int} (hT : vx_T 1 625 h) (H : (∀ h1, h1 = ve_sR h 7 6 (some a1) → vx_T 1 625 h1 → (x2 = 0 ∨ x2 = 1) ∧ (∀ h2, h2 = vx_sJ h1 7 7 x2 → vx_T 1 625 h2 → (∀ h4, h4 = vx_sJ h2 7 9 0 → vx_T 1 625 h4 → (∀ h5, h5 = vx_sJ h4 7 11 0 → vx_T 1 625 h5 → (∀ h6, h6 = vx_sJ h5 7 12 0 → vx_T 1 625 h6 → vx_CV d 194 [.ref 2] h6 (fun h7 => vx_T 1 625 h7 → P h7))))))) : vx_CV (d + 1) 148 [.ref 7, .ref a1, .int (vx_i x2)] h P := by
  refine vx_enter (ml := 3) (by decide +kernel) ?_
  show vx_W _ _ 0 [some (.ref 7), some (.ref a1), some (.int (vx_i x2))] [] h _
  refine vx_aload_n (n := 0) (q := 1) (by decide +kernel) rfl ?_
  refine vx_aload_n (n := 1) (q := 2) (by decide +kernel) rfl ?_
  refine vx_putR (idx := 100) (kd := 3) (s := 6) (fin := false) (q := 5) (by decide +kernel) (vx_Tk hT (by decide +kernel)) (fun h1 e1 => ?_)
  have hT1 := vx_TR hT e1 ⟨vx_Tk hT (kd := 3) (by decide +kernel), (by decide +kernel)⟩
  replace H := H h1 e1 hT1
  refine vx_aload_n (n := 0) (q := 6) (by decide +kernel) rfl ?_
  refine vx_iload_n (n := 2) (q := 7) (by decide +kernel) rfl ?_
  obtain ⟨k3, H⟩ := H
  refine vx_putZ (idx := 104) (kd := 3) (s := 7) (fin := false) (q := 10) (by decide +kernel) (vx_Tk hT1 (by decide +kernel)) k3 (fun h2 e2 => ?_)
  have hT2 := vx_TJ hT1 e2
  replace H := H h2 e2 hT2
  refine vx_aload_n (n := 0) (q := 11) (by decide +kernel) rfl ?_
  refine vx_iconst (n := 0) (q := 12) (by decide +kernel) ?_
  refine vx_putI (idx := 108) (kd := 3) (s := 9) (fin := false) (q := 15) (by decide +kernel) (vx_Tk hT2 (by decide +kernel)) (fun h4 e4 => ?_)
  have hT4 := vx_TJ hT2 e4
  replace H := H h4 e4 hT4
  refine vx_aload_n (n := 0) (q := 16) (by decide +kernel) rfl ?_
  refine vx_iconst (n := 0) (q := 17) (by decide +kernel) ?_
  refine vx_putI (idx := 56) (kd := 3) (s := 11) (fin := false) (q := 20) (by decide +kernel) (vx_Tk hT4 (by decide +kernel)) (fun h5 e5 => ?_)
  have hT5 := vx_TJ hT4 e5
  replace H := H h5 e5 hT5
  refine vx_aload_n (n := 0) (q := 21) (by decide +kernel) rfl ?_
  refine vx_iconst (n := 0) (q := 22) (by decide +kernel) ?_
  refine vx_putI (idx := 111) (kd := 3) (s := 12) (fin := false) (q := 25) (by decide +kernel) (vx_Tk hT5 (by decide +kernel)) (fun h6 e6 => ?_)
  have hT6 := vx_TJ hT5 e6
  replace H := H h6 e6 hT6
  refine vx_aload_n (n := 0) (q := 26) (by decide +kernel) rfl ?_
  refine vx_getR (b := 2) (idx := 32) (kd := 3) (s := 0) (fin := true) (q := 29) (by decide +kernel) (vx_Tk hT6 (by decide +kernel)) (vx_Tr hT6 (kd := 3) (by decide +kernel) (by decide +kernel) (by decide +kernel)) ?_
  refine vx_callV (i := .invokevirtual 114) (how := 3) (cm := 194) (np := 1) (q := 32) (args := [.ref 2]) (rest := []) (by decide +kernel) rfl rfl rfl (vx_w2 (w := 1) (ml := 3) rfl (by decide +kernel)) (vx_rcv (kd := 2) (vx_Tk hT6 (by decide +kernel)) (by decide +kernel)) H (fun h7 hs7 H => ?_)
  have hT7 := vx_Tsh hT6 hs7
  replace H := H hT7
  refine vx_retV (q := 33) (by decide +kernel) ?_
  exact H
-- RuleHouse$Reader.startRule(LRuleHouse$Rule;)V
theorem vg_149 {d : Nat} {h : ve_H} {P : ve_H → Prop} {a1 : Nat} (o1 : vx_o 1 625 7 a1) (hT : vx_T 1 625 h) (H : (∀ h1, h1 = ve_sR h 7 8 (some a1) → vx_T 1 625 h1 → vx_CV d 182 [.ref a1] h1 (fun h2 => vx_T 1 625 h2 → P h2))) : vx_CV (d + 1) 149 [.ref 7, .ref a1] h P := by
  refine vx_enter (ml := 2) (by decide +kernel) ?_
  show vx_W _ _ 0 [some (.ref 7), some (.ref a1)] [] h _
  refine vx_aload_n (n := 0) (q := 1) (by decide +kernel) rfl ?_
  refine vx_aload_n (n := 1) (q := 2) (by decide +kernel) rfl ?_
  refine vx_putR (idx := 36) (kd := 3) (s := 8) (fin := false) (q := 5) (by decide +kernel) (vx_Tk hT (by decide +kernel)) (fun h1 e1 => ?_)
  have hT1 := vx_TR hT e1 ⟨vx_Tk hT (kd := 3) (by decide +kernel), (by decide +kernel)⟩
  replace H := H h1 e1 hT1
  refine vx_aload_n (n := 0) (q := 6) (by decide +kernel) rfl ?_
  refine vx_getR (b := a1) (idx := 36) (kd := 3) (s := 8) (fin := false) (q := 9) (by decide +kernel) (vx_Tk hT1 (by decide +kernel)) (vx_Rsm e1) ?_
  refine vx_callV (i := .invokevirtual 119) (how := 3) (cm := 182) (np := 1) (q := 12) (args := [.ref a1]) (rest := []) (by decide +kernel) rfl rfl rfl (vx_w2 (w := 1) (ml := 1) rfl (by decide +kernel)) (vx_rcv (kd := 7) (vx_Tk hT1 o1) (by decide +kernel)) H (fun h2 hs2 H => ?_)
  have hT2 := vx_Tsh hT1 hs2
  replace H := H hT2
  refine vx_retV (q := 13) (by decide +kernel) ?_
  exact H
-- RuleHouse$Reader.readClause()Z
theorem vg_150 {d : Nat} {h : ve_H} {P : Int → ve_H → Prop}  (hT : vx_T 1 625 h) (H : (∃ b1, ve_R h 7 6 = some b1 ∧ vx_o 1 625 5 b1 ∧ (0 ≤ (vx_J h b1 7) ∧ (vx_J h b1 7) < 31) ∧ vx_CV d 149 [.ref 7, .ref (vx_r (vx_r b1 4) (vx_J h b1 7).toNat)] h (fun h3 => vx_T 1 625 h3 → vx_CI d 163 [.ref 7] h3 (fun r4 h4 => vx_T 1 625 h4 → vx_CI d 157 [.ref 7, .int (vx_i 16)] h4 (fun r5 h5 => vx_T 1 625 h5 → ((r5 ≠ 0 → (∃ b7, ve_R h5 7 8 = some b7 ∧ vx_o 1 625 7 b7 ∧ (∀ h8, h8 = vx_sJ h5 b7 0 (vx_J h5 7 10) → vx_T 1 625 h8 → ((0 : Int) ≤ 4 ∧ (0 : Int) ≤ 0 ∧ (0 : Int) ≤ 0 ∧ (0 : Int) + 4 ≤ (4 : Nat) ∧ (0 : Int) + 4 ≤ (4 : Nat)) ∧ (∀ h9, h9 = ve_cp h8 17 0 (vx_r b7 1) 0 h8 4 → vx_T 1 625 h9 → vx_CI d 164 [.ref 7, .int (vx_i 46)] h9 (fun r11 h11 => vx_T 1 625 h11 → ((r11 = 0 → vx_CI d 165 [.ref 7, .int (vx_i 10)] h11 (fun r13 h13 => vx_T 1 625 h13 → ((r13 ≠ 0 → (∃ b15, ve_R h13 7 6 = some b15 ∧ vx_o 1 625 5 b15 ∧ (((vx_J h13 b15 7) < 30 → vx_CI d 154 [.ref 7] h13 (fun r17 h17 => vx_T 1 625 h17 → ((r17 = 0 → P 0 h17) ∧ (r17 ≠ 0 → vx_CI d 165 [.ref 7, .int (vx_i 46)] h17 (fun r19 h19 => vx_T 1 625 h19 → ((r19 ≠ 0 → (∃ b21, ve_R h19 7 8 = some b21 ∧ vx_o 1 625 7 b21 ∧ vx_CI d 185 [.ref b21] h19 (fun r22 h22 => vx_T 1 625 h22 → vx_CV d 153 [.ref 7, .int (vx_i r22)] h22 (fun h23 => vx_T 1 625 h23 → (∃ b24, ve_R h23 7 6 = some b24 ∧ vx_o 1 625 5 b24 ∧ (∀ h25, h25 = vx_sJ h23 b24 7 ((vx_J h23 b24 7) + 1) → vx_T 1 625 h25 → P 1 h25)))))) ∧ (r19 = 0 → P 0 h19))))))) ∧ (30 ≤ (vx_J h13 b15 7) → vx_CI d 166 [.ref 7, .int (vx_i r4)] h13 (fun r26 h26 => vx_T 1 625 h26 → (r26 = 0 ∨ r26 = 1) ∧ P r26 h26))))) ∧ (r13 = 0 → P 0 h13)))) ∧ (r11 ≠ 0 → vx_CI d 151 [.ref 7] h11 (fun r28 h28 => vx_T 1 625 h28 → ((r28 = 0 → (r28 = 0 ∨ r28 = 1) ∧ P r28 h28) ∧ (r28 ≠ 0 → (∃ b31, ve_R h28 7 6 = some b31 ∧ vx_o 1 625 5 b31 ∧ vx_CI d 174 [.ref (vx_r b31 5), .ref 18] h28 (fun r32 h32 => vx_T 1 625 h32 → (r28 = 0 ∨ r28 = 1) ∧ P r28 h32)))))))))))) ∧ (r5 = 0 → P 0 h5))))))) : vx_CI (d + 1) 150 [.ref 7] h P := by
  refine vx_enter (ml := 3) (by decide +kernel) ?_
  show vx_W _ _ 0 [some (.ref 7), none, none] [] h _
  refine vx_aload_n (n := 0) (q := 1) (by decide +kernel) rfl ?_
  refine vx_aload_n (n := 0) (q := 2) (by decide +kernel) rfl ?_
  obtain ⟨b1, eb1, ob1, H⟩ := H
  refine vx_getR (b := b1) (idx := 100) (kd := 3) (s := 6) (fin := false) (q := 5) (by decide +kernel) (vx_Tk hT (by decide +kernel)) eb1 ?_
  refine vx_getR (b := vx_r b1 4) (idx := 120) (kd := 5) (s := 4) (fin := true) (q := 8) (by decide +kernel) (vx_Tk hT ob1) (vx_Tr hT (kd := 5) ob1 (by decide +kernel) (vx_f5_4 ob1).1) ?_
  refine vx_aload_n (n := 0) (q := 9) (by decide +kernel) rfl ?_
  refine vx_getR (b := b1) (idx := 100) (kd := 3) (s := 6) (fin := false) (q := 12) (by decide +kernel) (vx_Tk hT (by decide +kernel)) eb1 ?_
  refine vx_getI (idx := 123) (kd := 5) (s := 7) (fin := false) (q := 15) (by decide +kernel) (vx_Tk hT ob1) ?_
  obtain ⟨k2, H⟩ := H
  refine vx_aaload (b := vx_r (vx_r b1 4) (vx_J h b1 7).toNat) (z := 31) (q := 16) (by decide +kernel) (vx_Tk hT (vx_f5_4 ob1).2.1) (vx_Tz hT ⟨(vx_f5_4 ob1).2.1.1, (vx_f5_4 ob1).2.2⟩) (vx_ix k2 (by decide)) (vx_Tr hT (kd := 24) (vx_f5_4 ob1).2.1 (vx_fz24 (vx_tn k2)) (vx_f24 (vx_f5_4 ob1).2.1 (vx_tn k2)).1) ?_
  refine vx_callV (i := .invokevirtual 73) (how := 3) (cm := 149) (np := 2) (q := 19) (args := [.ref 7, .ref (vx_r (vx_r b1 4) (vx_J h b1 7).toNat)]) (rest := []) (by decide +kernel) rfl rfl rfl (vx_w2 (w := 2) (ml := 2) rfl (by decide +kernel)) (vx_rcv (kd := 3) (vx_Tk hT (by decide +kernel)) (by decide +kernel)) H (fun h3 hs3 H => ?_)
  have hT3 := vx_Tsh hT hs3
  replace H := H hT3
  refine vx_aload_n (n := 0) (q := 20) (by decide +kernel) rfl ?_
  refine vx_callI (i := .invokevirtual 126) (how := 3) (cm := 163) (np := 1) (q := 23) (args := [.ref 7]) (rest := []) (by decide +kernel) rfl rfl rfl (vx_w2 (w := 1) (ml := 1) rfl (by decide +kernel)) (vx_rcv (kd := 3) (vx_Tk hT3 (by decide +kernel)) (by decide +kernel)) H (fun r4 h4 hr4 hs4 H => ?_)
  have hT4 := vx_Tsh hT3 hs4
  replace H := H hT4
  refine vx_istore_n (n := 1) (q := 24) (lv' := [some (.ref 7), some (.int (vx_i r4)), none]) (by decide +kernel) rfl ?_
  refine vx_aload_n (n := 0) (q := 25) (by decide +kernel) rfl ?_
  refine vx_bipush (n := 16) (q := 27) (by decide +kernel) ?_
  refine vx_callI (i := .invokevirtual 77) (how := 3) (cm := 157) (np := 2) (q := 30) (args := [.ref 7, .int (vx_i 16)]) (rest := []) (by decide +kernel) rfl rfl rfl (vx_w2 (w := 2) (ml := 7) rfl (by decide +kernel)) (vx_rcv (kd := 3) (vx_Tk hT4 (by decide +kernel)) (by decide +kernel)) H (fun r5 h5 hr5 hs5 H => ?_)
  have hT5 := vx_Tsh hT4 hs5
  replace H := H hT5
  refine vx_if0_ne (off := 5) (q := 33) (t := 35) (by decide +kernel) hr5 (fun c6 => ?_) (fun c6 => ?_)
  · replace H := H.1 c6
    refine vx_aload_n (n := 0) (q := 36) (by decide +kernel) rfl ?_
    obtain ⟨b7, eb7, ob7, H⟩ := H
    refine vx_getR (b := b7) (idx := 36) (kd := 3) (s := 8) (fin := false) (q := 39) (by decide +kernel) (vx_Tk hT5 (by decide +kernel)) eb7 ?_
    refine vx_aload_n (n := 0) (q := 40) (by decide +kernel) rfl ?_
    refine vx_getI (idx := 129) (kd := 3) (s := 10) (fin := false) (q := 43) (by decide +kernel) (vx_Tk hT5 (by decide +kernel)) ?_
    refine vx_putI (idx := 132) (kd := 7) (s := 0) (fin := false) (q := 46) (by decide +kernel) (vx_Tk hT5 ob7) (fun h8 e8 => ?_)
    have hT8 := vx_TJ hT5 e8
    replace H := H h8 e8 hT8
    refine vx_aload_n (n := 0) (q := 47) (by decide +kernel) rfl ?_
    refine vx_getR (b := 17) (idx := 18) (kd := 3) (s := 2) (fin := true) (q := 50) (by decide +kernel) (vx_Tk hT8 (by decide +kernel)) (vx_Tr hT8 (kd := 3) (by decide +kernel) (by decide +kernel) (by decide +kernel)) ?_
    refine vx_iconst (n := 0) (q := 51) (by decide +kernel) ?_
    refine vx_aload_n (n := 0) (q := 52) (by decide +kernel) rfl ?_
    refine vx_getR (b := b7) (idx := 36) (kd := 3) (s := 8) (fin := false) (q := 55) (by decide +kernel) (vx_Tk hT8 (by decide +kernel)) (vx_RtJ e8 eb7) ?_
    refine vx_getR (b := vx_r b7 1) (idx := 135) (kd := 7) (s := 1) (fin := true) (q := 58) (by decide +kernel) (vx_Tk hT8 ob7) (vx_Tr hT8 (kd := 7) ob7 (by decide +kernel) (vx_f7_1 ob7).1) ?_
    refine vx_iconst (n := 0) (q := 59) (by decide +kernel) ?_
    refine vx_iconst (n := 4) (q := 60) (by decide +kernel) ?_
    obtain ⟨k10, H⟩ := H
    refine vx_acopy (i := .invokestatic 138) (np := 5) (cm := 0) (q := 63) (z1 := 4) (z2 := 4) (by decide +kernel) (vx_Tk hT8 (by decide +kernel)) (vx_Tk hT8 (vx_f7_1 ob7).2.1) (vx_Tz hT8 (by decide +kernel)) (vx_Tz hT8 ⟨(vx_f7_1 ob7).2.1.1, (vx_f7_1 ob7).2.2⟩) (vx_cx k10 (by decide) (by decide)) rfl (fun h9 e9 => ?_)
    have hT9 := vx_Tcp hT8 e9
    replace H := H h9 e9 hT9
    refine vx_aload_n (n := 0) (q := 64) (by decide +kernel) rfl ?_
    refine vx_bipush (n := 46) (q := 66) (by decide +kernel) ?_
    refine vx_callI (i := .invokevirtual 144) (how := 3) (cm := 164) (np := 2) (q := 69) (args := [.ref 7, .int (vx_i 46)]) (rest := []) (by decide +kernel) rfl rfl rfl (vx_w2 (w := 2) (ml := 2) rfl (by decide +kernel)) (vx_rcv (kd := 3) (vx_Tk hT9 (by decide +kernel)) (by decide +kernel)) H (fun r11 h11 hr11 hs11 H => ?_)
    have hT11 := vx_Tsh hT9 hs11
    replace H := H hT11
    refine vx_if0_eq (off := 29) (q := 72) (t := 98) (by decide +kernel) hr11 (fun c12 => ?_) (fun c12 => ?_)
    · replace H := H.1 c12
      refine vx_aload_n (n := 0) (q := 99) (by decide +kernel) rfl ?_
      refine vx_bipush (n := 10) (q := 101) (by decide +kernel) ?_
      refine vx_callI (i := .invokevirtual 81) (how := 3) (cm := 165) (np := 2) (q := 104) (args := [.ref 7, .int (vx_i 10)]) (rest := []) (by decide +kernel) rfl rfl rfl (vx_w2 (w := 2) (ml := 2) rfl (by decide +kernel)) (vx_rcv (kd := 3) (vx_Tk hT11 (by decide +kernel)) (by decide +kernel)) H (fun r13 h13 hr13 hs13 H => ?_)
      have hT13 := vx_Tsh hT11 hs13
      replace H := H hT13
      refine vx_if0_ne (off := 5) (q := 107) (t := 109) (by decide +kernel) hr13 (fun c14 => ?_) (fun c14 => ?_)
      · replace H := H.1 c14
        refine vx_aload_n (n := 0) (q := 110) (by decide +kernel) rfl ?_
        obtain ⟨b15, eb15, ob15, H⟩ := H
        refine vx_getR (b := b15) (idx := 100) (kd := 3) (s := 6) (fin := false) (q := 113) (by decide +kernel) (vx_Tk hT13 (by decide +kernel)) eb15 ?_
        refine vx_getI (idx := 123) (kd := 5) (s := 7) (fin := false) (q := 116) (by decide +kernel) (vx_Tk hT13 ob15) ?_
        refine vx_bipush (n := 30) (q := 118) (by decide +kernel) ?_
        refine vx_icmp_lt (off := 9) (q := 121) (t := 127) (by decide +kernel) (vx_rI_J h13 b15 7) (by decide) (fun c16 => ?_) (fun c16 => ?_)
        · replace H := H.1 c16
          refine vx_aload_n (n := 0) (q := 128) (by decide +kernel) rfl ?_
          refine vx_callI (i := .invokevirtual 90) (how := 3) (cm := 154) (np := 1) (q := 131) (args := [.ref 7]) (rest := []) (by decide +kernel) rfl rfl rfl (vx_w2 (w := 1) (ml := 3) rfl (by decide +kernel)) (vx_rcv (kd := 3) (vx_Tk hT13 (by decide +kernel)) (by decide +kernel)) H (fun r17 h17 hr17 hs17 H => ?_)
          have hT17 := vx_Tsh hT13 hs17
          replace H := H hT17
          refine vx_if0_eq (off := 12) (q := 134) (t := 143) (by decide +kernel) hr17 (fun c18 => ?_) (fun c18 => ?_)
          · replace H := H.1 c18
            refine vx_iconst (n := 0) (q := 144) (by decide +kernel) ?_
            refine vx_retZ (q := 145) (by decide +kernel) (Or.inl rfl) ?_
            exact H
          · replace H := H.2 c18
            refine vx_aload_n (n := 0) (q := 135) (by decide +kernel) rfl ?_
            refine vx_bipush (n := 46) (q := 137) (by decide +kernel) ?_
            refine vx_callI (i := .invokevirtual 81) (how := 3) (cm := 165) (np := 2) (q := 140) (args := [.ref 7, .int (vx_i 46)]) (rest := []) (by decide +kernel) rfl rfl rfl (vx_w2 (w := 2) (ml := 2) rfl (by decide +kernel)) (vx_rcv (kd := 3) (vx_Tk hT17 (by decide +kernel)) (by decide +kernel)) H (fun r19 h19 hr19 hs19 H => ?_)
            have hT19 := vx_Tsh hT17 hs19
            replace H := H hT19
            refine vx_if0_ne (off := 5) (q := 143) (t := 145) (by decide +kernel) hr19 (fun c20 => ?_) (fun c20 => ?_)
            · replace H := H.1 c20
              refine vx_aload_n (n := 0) (q := 146) (by decide +kernel) rfl ?_
              refine vx_aload_n (n := 0) (q := 147) (by decide +kernel) rfl ?_
              obtain ⟨b21, eb21, ob21, H⟩ := H
              refine vx_getR (b := b21) (idx := 36) (kd := 3) (s := 8) (fin := false) (q := 150) (by decide +kernel) (vx_Tk hT19 (by decide +kernel)) eb21 ?_
              refine vx_callI (i := .invokevirtual 93) (how := 3) (cm := 185) (np := 1) (q := 153) (args := [.ref b21]) (rest := [.ref 7]) (by decide +kernel) rfl rfl rfl (vx_w2 (w := 1) (ml := 6) rfl (by decide +kernel)) (vx_rcv (kd := 7) (vx_Tk hT19 ob21) (by decide +kernel)) H (fun r22 h22 hr22 hs22 H => ?_)
              have hT22 := vx_Tsh hT19 hs22
              replace H := H hT22
              refine vx_callV (i := .invokevirtual 96) (how := 3) (cm := 153) (np := 2) (q := 156) (args := [.ref 7, .int (vx_i r22)]) (rest := []) (by decide +kernel) rfl rfl rfl (vx_w2 (w := 2) (ml := 3) rfl (by decide +kernel)) (vx_rcv (kd := 3) (vx_Tk hT22 (by decide +kernel)) (by decide +kernel)) H (fun h23 hs23 H => ?_)
              have hT23 := vx_Tsh hT22 hs23
              replace H := H hT23
              refine vx_aload_n (n := 0) (q := 157) (by decide +kernel) rfl ?_
              obtain ⟨b24, eb24, ob24, H⟩ := H
              refine vx_getR (b := b24) (idx := 100) (kd := 3) (s := 6) (fin := false) (q := 160) (by decide +kernel) (vx_Tk hT23 (by decide +kernel)) eb24 ?_
              refine vx_dupR (q := 161) (by decide +kernel) ?_
              refine vx_getI (idx := 123) (kd := 5) (s := 7) (fin := false) (q := 164) (by decide +kernel) (vx_Tk hT23 ob24) ?_
              refine vx_iconst (n := 1) (q := 165) (by decide +kernel) ?_
              refine vx_iadd (q := 166) (by decide +kernel) ?_
              refine vx_putI (idx := 123) (kd := 5) (s := 7) (fin := false) (q := 169) (by decide +kernel) (vx_Tk hT23 ob24) (fun h25 e25 => ?_)
              have hT25 := vx_TJ hT23 e25
              replace H := H h25 e25 hT25
              refine vx_iconst (n := 1) (q := 170) (by decide +kernel) ?_
              refine vx_retZ (q := 171) (by decide +kernel) (Or.inr rfl) ?_
              exact H
            · replace H := H.2 c20
              refine vx_iconst (n := 0) (q := 144) (by decide +kernel) ?_
              refine vx_retZ (q := 145) (by decide +kernel) (Or.inl rfl) ?_
              exact H
        · replace H := H.2 c16
          refine vx_aload_n (n := 0) (q := 122) (by decide +kernel) rfl ?_
          refine vx_iload_n (n := 1) (q := 123) (by decide +kernel) rfl ?_
          refine vx_callI (i := .invokevirtual 157) (how := 3) (cm := 166) (np := 2) (q := 126) (args := [.ref 7, .int (vx_i r4)]) (rest := []) (by decide +kernel) rfl rfl rfl (vx_w2 (w := 2) (ml := 2) rfl (by decide +kernel)) (vx_rcv (kd := 3) (vx_Tk hT13 (by decide +kernel)) (by decide +kernel)) H (fun r26 h26 hr26 hs26 H => ?_)
          have hT26 := vx_Tsh hT13 hs26
          replace H := H hT26
          obtain ⟨k27, H⟩ := H
          refine vx_retZ (q := 127) (by decide +kernel) k27 ?_
          exact H
      · replace H := H.2 c14
        refine vx_iconst (n := 0) (q := 108) (by decide +kernel) ?_
        refine vx_retZ (q := 109) (by decide +kernel) (Or.inl rfl) ?_
        exact H
    · replace H := H.2 c12
      refine vx_aload_n (n := 0) (q := 73) (by decide +kernel) rfl ?_
      refine vx_callI (i := .invokevirtual 84) (how := 3) (cm := 151) (np := 1) (q := 76) (args := [.ref 7]) (rest := []) (by decide +kernel) rfl rfl rfl (vx_w2 (w := 1) (ml := 2) rfl (by decide +kernel)) (vx_rcv (kd := 3) (vx_Tk hT11 (by decide +kernel)) (by decide +kernel)) H (fun r28 h28 hr28 hs28 H => ?_)
      have hT28 := vx_Tsh hT11 hs28
      replace H := H hT28
      refine vx_istore_n (n := 2) (q := 77) (lv' := [some (.ref 7), some (.int (vx_i r4)), some (.int (vx_i r28))]) (by decide +kernel) rfl ?_
      refine vx_iload_n (n := 2) (q := 78) (by decide +kernel) rfl ?_
      refine vx_if0_eq (off := 18) (q := 81) (t := 96) (by decide +kernel) hr28 (fun c29 => ?_) (fun c29 => ?_)
      · replace H := H.1 c29
        refine vx_iload_n (n := 2) (q := 97) (by decide +kernel) rfl ?_
        obtain ⟨k30, H⟩ := H
        refine vx_retZ (q := 98) (by decide +kernel) k30 ?_
        exact H
      · replace H := H.2 c29
        refine vx_aload_n (n := 0) (q := 82) (by decide +kernel) rfl ?_
        obtain ⟨b31, eb31, ob31, H⟩ := H
        refine vx_getR (b := b31) (idx := 100) (kd := 3) (s := 6) (fin := false) (q := 85) (by decide +kernel) (vx_Tk hT28 (by decide +kernel)) eb31 ?_
        refine vx_getR (b := vx_r b31 5) (idx := 147) (kd := 5) (s := 5) (fin := true) (q := 88) (by decide +kernel) (vx_Tk hT28 ob31) (vx_Tr hT28 (kd := 5) ob31 (by decide +kernel) (vx_f5_5 ob31).1) ?_
        refine vx_aload_n (n := 0) (q := 89) (by decide +kernel) rfl ?_
        refine vx_getR (b := 18) (idx := 22) (kd := 3) (s := 3) (fin := true) (q := 92) (by decide +kernel) (vx_Tk hT28 (by decide +kernel)) (vx_Tr hT28 (kd := 3) (by decide +kernel) (by decide +kernel) (by decide +kernel)) ?_
        refine vx_callI (i := .invokevirtual 151) (how := 3) (cm := 174) (np := 2) (q := 95) (args := [.ref (vx_r b31 5), .ref 18]) (rest := []) (by decide +kernel) rfl rfl rfl (vx_w2 (w := 2) (ml := 3) rfl (by decide +kernel)) (vx_rcv (kd := 6) (vx_Tk hT28 (vx_f5_5 ob31).2) (by decide +kernel)) H (fun r32 h32 hr32 hs32 H => ?_)
        have hT32 := vx_Tsh hT28 hs32
        replace H := H hT32
        refine vx_popI (q := 96) (by decide +kernel) ?_
        refine vx_iload_n (n := 2) (q := 97) (by decide +kernel) rfl ?_
        obtain ⟨k33, H⟩ := H
        refine vx_retZ (q := 98) (by decide +kernel) k33 ?_
        exact H
  · replace H := H.2 c6
    refine vx_iconst (n := 0) (q := 34) (by decide +kernel) ?_
    refine vx_retZ (q := 35) (by decide +kernel) (Or.inl rfl) ?_
    exact H
-- RuleHouse$Reader.checkFact()Z
theorem vg_151 {d : Nat} {h : ve_H} {P : Int → ve_H → Prop}  (hT : vx_T 1 625 h) (H : (∃ b1, ve_R h 7 8 = some b1 ∧ vx_o 1 625 7 b1 ∧ (((vx_J h b1 2) ≠ ((-1)) → (((vx_J h b1 5) ≤ 0 → (((vx_J h b1 4) = ((-1)) → (∀ h5, h5 = vx_sK h 18 0 (vx_J h 7 10) → vx_T 1 625 h5 → ((0 : Int) ≤ 4 ∧ (0 : Int) ≤ 0 ∧ (0 : Int) ≤ 1 ∧ (0 : Int) + 4 ≤ (4 : Nat) ∧ (1 : Int) + 4 ≤ (5 : Nat)) ∧ (∀ h6, h6 = ve_cp h5 17 0 18 1 h5 4 → vx_T 1 625 h6 → P 1 h6))) ∧ ((vx_J h b1 4) ≠ ((-1)) → vx_CI d 166 [.ref 7, .int (vx_i (vx_J h b1 4))] h (fun r8 h8 => vx_T 1 625 h8 → (r8 = 0 ∨ r8 = 1) ∧ P r8 h8)))) ∧ (0 < (vx_J h b1 5) → (((vx_J h b1 4) = ((-1)) → (((vx_J h 20 0) = ((-1)) → (∀ h12, h12 = vx_sK h 18 0 (vx_J h 7 10) → vx_T 1 625 h12 → ((0 : Int) ≤ 4 ∧ (0 : Int) ≤ 0 ∧ (0 : Int) ≤ 1 ∧ (0 : Int) + 4 ≤ (4 : Nat) ∧ (1 : Int) + 4 ≤ (5 : Nat)) ∧ (∀ h13, h13 = ve_cp h12 17 0 18 1 h12 4 → vx_T 1 625 h13 → P 1 h13))) ∧ ((vx_J h 20 0) ≠ ((-1)) → vx_CI d 166 [.ref 7, .int (vx_i (vx_J h 20 0))] h (fun r15 h15 => vx_T 1 625 h15 → (r15 = 0 ∨ r15 = 1) ∧ P r15 h15)))) ∧ ((vx_J h b1 4) ≠ ((-1)) → (((vx_J h b1 4) ≤ (vx_J h 20 0) → vx_CI d 166 [.ref 7, .int (vx_i (vx_J h b1 4))] h (fun r18 h18 => vx_T 1 625 h18 → (r18 = 0 ∨ r18 = 1) ∧ P r18 h18)) ∧ ((vx_J h 20 0) < (vx_J h b1 4) → (((vx_J h 20 0) = ((-1)) → (∀ h21, h21 = vx_sK h 18 0 (vx_J h 7 10) → vx_T 1 625 h21 → ((0 : Int) ≤ 4 ∧ (0 : Int) ≤ 0 ∧ (0 : Int) ≤ 1 ∧ (0 : Int) + 4 ≤ (4 : Nat) ∧ (1 : Int) + 4 ≤ (5 : Nat)) ∧ (∀ h22, h22 = ve_cp h21 17 0 18 1 h21 4 → vx_T 1 625 h22 → P 1 h22))) ∧ ((vx_J h 20 0) ≠ ((-1)) → vx_CI d 166 [.ref 7, .int (vx_i (vx_J h 20 0))] h (fun r24 h24 => vx_T 1 625 h24 → (r24 = 0 ∨ r24 = 1) ∧ P r24 h24)))))))))) ∧ ((vx_J h b1 2) = ((-1)) → (((vx_J h b1 5) ≤ 0 → (∀ h27, h27 = vx_sK h 18 0 (vx_J h 7 10) → vx_T 1 625 h27 → ((0 : Int) ≤ 4 ∧ (0 : Int) ≤ 0 ∧ (0 : Int) ≤ 1 ∧ (0 : Int) + 4 ≤ (4 : Nat) ∧ (1 : Int) + 4 ≤ (5 : Nat)) ∧ (∀ h28, h28 = ve_cp h27 17 0 18 1 h27 4 → vx_T 1 625 h28 → P 1 h28))) ∧ (0 < (vx_J h b1 5) → (((vx_J h 20 0) = ((-1)) → (∀ h31, h31 = vx_sK h 18 0 (vx_J h 7 10) → vx_T 1 625 h31 → ((0 : Int) ≤ 4 ∧ (0 : Int) ≤ 0 ∧ (0 : Int) ≤ 1 ∧ (0 : Int) + 4 ≤ (4 : Nat) ∧ (1 : Int) + 4 ≤ (5 : Nat)) ∧ (∀ h32, h32 = ve_cp h31 17 0 18 1 h31 4 → vx_T 1 625 h32 → P 1 h32))) ∧ ((vx_J h 20 0) ≠ ((-1)) → vx_CI d 166 [.ref 7, .int (vx_i (vx_J h 20 0))] h (fun r34 h34 => vx_T 1 625 h34 → (r34 = 0 ∨ r34 = 1) ∧ P r34 h34))))))))) : vx_CI (d + 1) 151 [.ref 7] h P := by
  refine vx_enter (ml := 2) (by decide +kernel) ?_
  show vx_W _ _ 0 [some (.ref 7), none] [] h _
  refine vx_aload_n (n := 0) (q := 1) (by decide +kernel) rfl ?_
  obtain ⟨b1, eb1, ob1, H⟩ := H
  refine vx_getR (b := b1) (idx := 36) (kd := 3) (s := 8) (fin := false) (q := 4) (by decide +kernel) (vx_Tk hT (by decide +kernel)) eb1 ?_
  refine vx_getI (idx := 160) (kd := 7) (s := 2) (fin := false) (q := 7) (by decide +kernel) (vx_Tk hT ob1) ?_
  refine vx_iconst (n := (-1)) (q := 8) (by decide +kernel) ?_
  refine vx_icmp_ne (off := 7) (q := 11) (t := 15) (by decide +kernel) (vx_rI_J h b1 2) (by decide) (fun c2 => ?_) (fun c2 => ?_)
  · replace H := H.1 c2
    refine vx_aload_n (n := 0) (q := 16) (by decide +kernel) rfl ?_
    refine vx_getR (b := b1) (idx := 36) (kd := 3) (s := 8) (fin := false) (q := 19) (by decide +kernel) (vx_Tk hT (by decide +kernel)) eb1 ?_
    refine vx_getI (idx := 163) (kd := 7) (s := 4) (fin := false) (q := 22) (by decide +kernel) (vx_Tk hT ob1) ?_
    refine vx_istore_n (n := 1) (q := 23) (lv' := [some (.ref 7), some (.int (vx_i (vx_J h b1 4)))]) (by decide +kernel) rfl ?_
    refine vx_aload_n (n := 0) (q := 24) (by decide +kernel) rfl ?_
    refine vx_getR (b := b1) (idx := 36) (kd := 3) (s := 8) (fin := false) (q := 27) (by decide +kernel) (vx_Tk hT (by decide +kernel)) eb1 ?_
    refine vx_getI (idx := 166) (kd := 7) (s := 5) (fin := false) (q := 30) (by decide +kernel) (vx_Tk hT ob1) ?_
    refine vx_if0_le (off := 25) (q := 33) (t := 55) (by decide +kernel) (vx_rI_J h b1 5) (fun c3 => ?_) (fun c3 => ?_)
    · replace H := H.1 c3
      refine vx_iload_n (n := 1) (q := 56) (by decide +kernel) rfl ?_
      refine vx_iconst (n := (-1)) (q := 57) (by decide +kernel) ?_
      refine vx_icmp_eq (off := 9) (q := 60) (t := 66) (by decide +kernel) (vx_rI_J h b1 4) (by decide) (fun c4 => ?_) (fun c4 => ?_)
      · replace H := H.1 c4
        refine vx_aload_n (n := 0) (q := 67) (by decide +kernel) rfl ?_
        refine vx_getR (b := 18) (idx := 22) (kd := 3) (s := 3) (fin := true) (q := 70) (by decide +kernel) (vx_Tk hT (by decide +kernel)) (vx_Tr hT (kd := 3) (by decide +kernel) (by decide +kernel) (by decide +kernel)) ?_
        refine vx_iconst (n := 0) (q := 71) (by decide +kernel) ?_
        refine vx_aload_n (n := 0) (q := 72) (by decide +kernel) rfl ?_
        refine vx_getI (idx := 129) (kd := 3) (s := 10) (fin := false) (q := 75) (by decide +kernel) (vx_Tk hT (by decide +kernel)) ?_
        refine vx_i2l (q := 76) (by decide +kernel) (vx_rI_J h 7 10) ?_
        refine vx_lastore (z := 5) (q := 77) (by decide +kernel) (vx_Tk hT (by decide +kernel)) (vx_Tz hT (by decide +kernel)) (by decide) (fun h5 e5 => ?_)
        have hT5 := vx_TK hT e5
        replace H := H h5 e5 hT5
        refine vx_aload_n (n := 0) (q := 78) (by decide +kernel) rfl ?_
        refine vx_getR (b := 17) (idx := 18) (kd := 3) (s := 2) (fin := true) (q := 81) (by decide +kernel) (vx_Tk hT5 (by decide +kernel)) (vx_Tr hT5 (kd := 3) (by decide +kernel) (by decide +kernel) (by decide +kernel)) ?_
        refine vx_iconst (n := 0) (q := 82) (by decide +kernel) ?_
        refine vx_aload_n (n := 0) (q := 83) (by decide +kernel) rfl ?_
        refine vx_getR (b := 18) (idx := 22) (kd := 3) (s := 3) (fin := true) (q := 86) (by decide +kernel) (vx_Tk hT5 (by decide +kernel)) (vx_Tr hT5 (kd := 3) (by decide +kernel) (by decide +kernel) (by decide +kernel)) ?_
        refine vx_iconst (n := 1) (q := 87) (by decide +kernel) ?_
        refine vx_iconst (n := 4) (q := 88) (by decide +kernel) ?_
        obtain ⟨k7, H⟩ := H
        refine vx_acopy (i := .invokestatic 138) (np := 5) (cm := 0) (q := 91) (z1 := 4) (z2 := 5) (by decide +kernel) (vx_Tk hT5 (by decide +kernel)) (vx_Tk hT5 (by decide +kernel)) (vx_Tz hT5 (by decide +kernel)) (vx_Tz hT5 (by decide +kernel)) (vx_cx k7 (by decide) (by decide)) rfl (fun h6 e6 => ?_)
        have hT6 := vx_Tcp hT5 e6
        replace H := H h6 e6 hT6
        refine vx_iconst (n := 1) (q := 92) (by decide +kernel) ?_
        refine vx_retZ (q := 93) (by decide +kernel) (Or.inr rfl) ?_
        exact H
      · replace H := H.2 c4
        refine vx_aload_n (n := 0) (q := 61) (by decide +kernel) rfl ?_
        refine vx_iload_n (n := 1) (q := 62) (by decide +kernel) rfl ?_
        refine vx_callI (i := .invokevirtual 157) (how := 3) (cm := 166) (np := 2) (q := 65) (args := [.ref 7, .int (vx_i (vx_J h b1 4))]) (rest := []) (by decide +kernel) rfl rfl rfl (vx_w2 (w := 2) (ml := 2) rfl (by decide +kernel)) (vx_rcv (kd := 3) (vx_Tk hT (by decide +kernel)) (by decide +kernel)) H (fun r8 h8 hr8 hs8 H => ?_)
        have hT8 := vx_Tsh hT hs8
        replace H := H hT8
        obtain ⟨k9, H⟩ := H
        refine vx_retZ (q := 66) (by decide +kernel) k9 ?_
        exact H
    · replace H := H.2 c3
      refine vx_iload_n (n := 1) (q := 34) (by decide +kernel) rfl ?_
      refine vx_iconst (n := (-1)) (q := 35) (by decide +kernel) ?_
      refine vx_icmp_eq (off := 13) (q := 38) (t := 48) (by decide +kernel) (vx_rI_J h b1 4) (by decide) (fun c10 => ?_) (fun c10 => ?_)
      · replace H := H.1 c10
        refine vx_aload_n (n := 0) (q := 49) (by decide +kernel) rfl ?_
        refine vx_getR (b := 20) (idx := 28) (kd := 3) (s := 5) (fin := true) (q := 52) (by decide +kernel) (vx_Tk hT (by decide +kernel)) (vx_Tr hT (kd := 3) (by decide +kernel) (by decide +kernel) (by decide +kernel)) ?_
        refine vx_iconst (n := 0) (q := 53) (by decide +kernel) ?_
        refine vx_iaload (z := 8) (q := 54) (by decide +kernel) (vx_Tk hT (by decide +kernel)) (vx_Tz hT (by decide +kernel)) (by decide) ?_
        refine vx_istore_n (n := 1) (q := 55) (lv' := [some (.ref 7), some (.int (vx_i (vx_J h 20 0)))]) (by decide +kernel) rfl ?_
        refine vx_iload_n (n := 1) (q := 56) (by decide +kernel) rfl ?_
        refine vx_iconst (n := (-1)) (q := 57) (by decide +kernel) ?_
        refine vx_icmp_eq (off := 9) (q := 60) (t := 66) (by decide +kernel) (vx_rI_J h 20 0) (by decide) (fun c11 => ?_) (fun c11 => ?_)
        · replace H := H.1 c11
          refine vx_aload_n (n := 0) (q := 67) (by decide +kernel) rfl ?_
          refine vx_getR (b := 18) (idx := 22) (kd := 3) (s := 3) (fin := true) (q := 70) (by decide +kernel) (vx_Tk hT (by decide +kernel)) (vx_Tr hT (kd := 3) (by decide +kernel) (by decide +kernel) (by decide +kernel)) ?_
          refine vx_iconst (n := 0) (q := 71) (by decide +kernel) ?_
          refine vx_aload_n (n := 0) (q := 72) (by decide +kernel) rfl ?_
          refine vx_getI (idx := 129) (kd := 3) (s := 10) (fin := false) (q := 75) (by decide +kernel) (vx_Tk hT (by decide +kernel)) ?_
          refine vx_i2l (q := 76) (by decide +kernel) (vx_rI_J h 7 10) ?_
          refine vx_lastore (z := 5) (q := 77) (by decide +kernel) (vx_Tk hT (by decide +kernel)) (vx_Tz hT (by decide +kernel)) (by decide) (fun h12 e12 => ?_)
          have hT12 := vx_TK hT e12
          replace H := H h12 e12 hT12
          refine vx_aload_n (n := 0) (q := 78) (by decide +kernel) rfl ?_
          refine vx_getR (b := 17) (idx := 18) (kd := 3) (s := 2) (fin := true) (q := 81) (by decide +kernel) (vx_Tk hT12 (by decide +kernel)) (vx_Tr hT12 (kd := 3) (by decide +kernel) (by decide +kernel) (by decide +kernel)) ?_
          refine vx_iconst (n := 0) (q := 82) (by decide +kernel) ?_
          refine vx_aload_n (n := 0) (q := 83) (by decide +kernel) rfl ?_
          refine vx_getR (b := 18) (idx := 22) (kd := 3) (s := 3) (fin := true) (q := 86) (by decide +kernel) (vx_Tk hT12 (by decide +kernel)) (vx_Tr hT12 (kd := 3) (by decide +kernel) (by decide +kernel) (by decide +kernel)) ?_
          refine vx_iconst (n := 1) (q := 87) (by decide +kernel) ?_
          refine vx_iconst (n := 4) (q := 88) (by decide +kernel) ?_
          obtain ⟨k14, H⟩ := H
          refine vx_acopy (i := .invokestatic 138) (np := 5) (cm := 0) (q := 91) (z1 := 4) (z2 := 5) (by decide +kernel) (vx_Tk hT12 (by decide +kernel)) (vx_Tk hT12 (by decide +kernel)) (vx_Tz hT12 (by decide +kernel)) (vx_Tz hT12 (by decide +kernel)) (vx_cx k14 (by decide) (by decide)) rfl (fun h13 e13 => ?_)
          have hT13 := vx_Tcp hT12 e13
          replace H := H h13 e13 hT13
          refine vx_iconst (n := 1) (q := 92) (by decide +kernel) ?_
          refine vx_retZ (q := 93) (by decide +kernel) (Or.inr rfl) ?_
          exact H
        · replace H := H.2 c11
          refine vx_aload_n (n := 0) (q := 61) (by decide +kernel) rfl ?_
          refine vx_iload_n (n := 1) (q := 62) (by decide +kernel) rfl ?_
          refine vx_callI (i := .invokevirtual 157) (how := 3) (cm := 166) (np := 2) (q := 65) (args := [.ref 7, .int (vx_i (vx_J h 20 0))]) (rest := []) (by decide +kernel) rfl rfl rfl (vx_w2 (w := 2) (ml := 2) rfl (by decide +kernel)) (vx_rcv (kd := 3) (vx_Tk hT (by decide +kernel)) (by decide +kernel)) H (fun r15 h15 hr15 hs15 H => ?_)
          have hT15 := vx_Tsh hT hs15
          replace H := H hT15
          obtain ⟨k16, H⟩ := H
          refine vx_retZ (q := 66) (by decide +kernel) k16 ?_
          exact H
      · replace H := H.2 c10
        refine vx_aload_n (n := 0) (q := 39) (by decide +kernel) rfl ?_
        refine vx_getR (b := 20) (idx := 28) (kd := 3) (s := 5) (fin := true) (q := 42) (by decide +kernel) (vx_Tk hT (by decide +kernel)) (vx_Tr hT (kd := 3) (by decide +kernel) (by decide +kernel) (by decide +kernel)) ?_
        refine vx_iconst (n := 0) (q := 43) (by decide +kernel) ?_
        refine vx_iaload (z := 8) (q := 44) (by decide +kernel) (vx_Tk hT (by decide +kernel)) (vx_Tz hT (by decide +kernel)) (by decide) ?_
        refine vx_iload_n (n := 1) (q := 45) (by decide +kernel) rfl ?_
        refine vx_icmp_ge (off := 10) (q := 48) (t := 55) (by decide +kernel) (vx_rI_J h 20 0) (vx_rI_J h b1 4) (fun c17 => ?_) (fun c17 => ?_)
        · replace H := H.1 c17
          refine vx_iload_n (n := 1) (q := 56) (by decide +kernel) rfl ?_
          refine vx_iconst (n := (-1)) (q := 57) (by decide +kernel) ?_
          refine vx_icmp_eq (off := 9) (q := 60) (t := 66) (by decide +kernel) (vx_rI_J h b1 4) (by decide) (fun c => absurd c (by omega)) (fun _ => ?_)
          refine vx_aload_n (n := 0) (q := 61) (by decide +kernel) rfl ?_
          refine vx_iload_n (n := 1) (q := 62) (by decide +kernel) rfl ?_
          refine vx_callI (i := .invokevirtual 157) (how := 3) (cm := 166) (np := 2) (q := 65) (args := [.ref 7, .int (vx_i (vx_J h b1 4))]) (rest := []) (by decide +kernel) rfl rfl rfl (vx_w2 (w := 2) (ml := 2) rfl (by decide +kernel)) (vx_rcv (kd := 3) (vx_Tk hT (by decide +kernel)) (by decide +kernel)) H (fun r18 h18 hr18 hs18 H => ?_)
          have hT18 := vx_Tsh hT hs18
          replace H := H hT18
          obtain ⟨k19, H⟩ := H
          refine vx_retZ (q := 66) (by decide +kernel) k19 ?_
          exact H
        · replace H := H.2 c17
          refine vx_aload_n (n := 0) (q := 49) (by decide +kernel) rfl ?_
          refine vx_getR (b := 20) (idx := 28) (kd := 3) (s := 5) (fin := true) (q := 52) (by decide +kernel) (vx_Tk hT (by decide +kernel)) (vx_Tr hT (kd := 3) (by decide +kernel) (by decide +kernel) (by decide +kernel)) ?_
          refine vx_iconst (n := 0) (q := 53) (by decide +kernel) ?_
          refine vx_iaload (z := 8) (q := 54) (by decide +kernel) (vx_Tk hT (by decide +kernel)) (vx_Tz hT (by decide +kernel)) (by decide) ?_
          refine vx_istore_n (n := 1) (q := 55) (lv' := [some (.ref 7), some (.int (vx_i (vx_J h 20 0)))]) (by decide +kernel) rfl ?_
          refine vx_iload_n (n := 1) (q := 56) (by decide +kernel) rfl ?_
          refine vx_iconst (n := (-1)) (q := 57) (by decide +kernel) ?_
          refine vx_icmp_eq (off := 9) (q := 60) (t := 66) (by decide +kernel) (vx_rI_J h 20 0) (by decide) (fun c20 => ?_) (fun c20 => ?_)
          · replace H := H.1 c20
            refine vx_aload_n (n := 0) (q := 67) (by decide +kernel) rfl ?_
            refine vx_getR (b := 18) (idx := 22) (kd := 3) (s := 3) (fin := true) (q := 70) (by decide +kernel) (vx_Tk hT (by decide +kernel)) (vx_Tr hT (kd := 3) (by decide +kernel) (by decide +kernel) (by decide +kernel)) ?_
            refine vx_iconst (n := 0) (q := 71) (by decide +kernel) ?_
            refine vx_aload_n (n := 0) (q := 72) (by decide +kernel) rfl ?_
            refine vx_getI (idx := 129) (kd := 3) (s := 10) (fin := false) (q := 75) (by decide +kernel) (vx_Tk hT (by decide +kernel)) ?_
            refine vx_i2l (q := 76) (by decide +kernel) (vx_rI_J h 7 10) ?_
            refine vx_lastore (z := 5) (q := 77) (by decide +kernel) (vx_Tk hT (by decide +kernel)) (vx_Tz hT (by decide +kernel)) (by decide) (fun h21 e21 => ?_)
            have hT21 := vx_TK hT e21
            replace H := H h21 e21 hT21
            refine vx_aload_n (n := 0) (q := 78) (by decide +kernel) rfl ?_
            refine vx_getR (b := 17) (idx := 18) (kd := 3) (s := 2) (fin := true) (q := 81) (by decide +kernel) (vx_Tk hT21 (by decide +kernel)) (vx_Tr hT21 (kd := 3) (by decide +kernel) (by decide +kernel) (by decide +kernel)) ?_
            refine vx_iconst (n := 0) (q := 82) (by decide +kernel) ?_
            refine vx_aload_n (n := 0) (q := 83) (by decide +kernel) rfl ?_
            refine vx_getR (b := 18) (idx := 22) (kd := 3) (s := 3) (fin := true) (q := 86) (by decide +kernel) (vx_Tk hT21 (by decide +kernel)) (vx_Tr hT21 (kd := 3) (by decide +kernel) (by decide +kernel) (by decide +kernel)) ?_
            refine vx_iconst (n := 1) (q := 87) (by decide +kernel) ?_
            refine vx_iconst (n := 4) (q := 88) (by decide +kernel) ?_
            obtain ⟨k23, H⟩ := H
            refine vx_acopy (i := .invokestatic 138) (np := 5) (cm := 0) (q := 91) (z1 := 4) (z2 := 5) (by decide +kernel) (vx_Tk hT21 (by decide +kernel)) (vx_Tk hT21 (by decide +kernel)) (vx_Tz hT21 (by decide +kernel)) (vx_Tz hT21 (by decide +kernel)) (vx_cx k23 (by decide) (by decide)) rfl (fun h22 e22 => ?_)
            have hT22 := vx_Tcp hT21 e22
            replace H := H h22 e22 hT22
            refine vx_iconst (n := 1) (q := 92) (by decide +kernel) ?_
            refine vx_retZ (q := 93) (by decide +kernel) (Or.inr rfl) ?_
            exact H
          · replace H := H.2 c20
            refine vx_aload_n (n := 0) (q := 61) (by decide +kernel) rfl ?_
            refine vx_iload_n (n := 1) (q := 62) (by decide +kernel) rfl ?_
            refine vx_callI (i := .invokevirtual 157) (how := 3) (cm := 166) (np := 2) (q := 65) (args := [.ref 7, .int (vx_i (vx_J h 20 0))]) (rest := []) (by decide +kernel) rfl rfl rfl (vx_w2 (w := 2) (ml := 2) rfl (by decide +kernel)) (vx_rcv (kd := 3) (vx_Tk hT (by decide +kernel)) (by decide +kernel)) H (fun r24 h24 hr24 hs24 H => ?_)
            have hT24 := vx_Tsh hT hs24
            replace H := H hT24
            obtain ⟨k25, H⟩ := H
            refine vx_retZ (q := 66) (by decide +kernel) k25 ?_
            exact H
  · replace H := H.2 c2
    refine vx_iconst (n := (-1)) (q := 12) (by decide +kernel) ?_
    refine vx_goto (off := 10) (q := 15) (t := 22) (by decide +kernel) ?_
    refine vx_istore_n (n := 1) (q := 23) (lv' := [some (.ref 7), some (.int (vx_i ((-1))))]) (by decide +kernel) rfl ?_
    refine vx_aload_n (n := 0) (q := 24) (by decide +kernel) rfl ?_
    refine vx_getR (b := b1) (idx := 36) (kd := 3) (s := 8) (fin := false) (q := 27) (by decide +kernel) (vx_Tk hT (by decide +kernel)) eb1 ?_
    refine vx_getI (idx := 166) (kd := 7) (s := 5) (fin := false) (q := 30) (by decide +kernel) (vx_Tk hT ob1) ?_
    refine vx_if0_le (off := 25) (q := 33) (t := 55) (by decide +kernel) (vx_rI_J h b1 5) (fun c26 => ?_) (fun c26 => ?_)
    · replace H := H.1 c26
      refine vx_iload_n (n := 1) (q := 56) (by decide +kernel) rfl ?_
      refine vx_iconst (n := (-1)) (q := 57) (by decide +kernel) ?_
      refine vx_icmp_eq (off := 9) (q := 60) (t := 66) (by decide +kernel) (by decide) (by decide) (fun _ => ?_) (fun c => absurd c (by decide))
      refine vx_aload_n (n := 0) (q := 67) (by decide +kernel) rfl ?_
      refine vx_getR (b := 18) (idx := 22) (kd := 3) (s := 3) (fin := true) (q := 70) (by decide +kernel) (vx_Tk hT (by decide +kernel)) (vx_Tr hT (kd := 3) (by decide +kernel) (by decide +kernel) (by decide +kernel)) ?_
      refine vx_iconst (n := 0) (q := 71) (by decide +kernel) ?_
      refine vx_aload_n (n := 0) (q := 72) (by decide +kernel) rfl ?_
      refine vx_getI (idx := 129) (kd := 3) (s := 10) (fin := false) (q := 75) (by decide +kernel) (vx_Tk hT (by decide +kernel)) ?_
      refine vx_i2l (q := 76) (by decide +kernel) (vx_rI_J h 7 10) ?_
      refine vx_lastore (z := 5) (q := 77) (by decide +kernel) (vx_Tk hT (by decide +kernel)) (vx_Tz hT (by decide +kernel)) (by decide) (fun h27 e27 => ?_)
      have hT27 := vx_TK hT e27
      replace H := H h27 e27 hT27
      refine vx_aload_n (n := 0) (q := 78) (by decide +kernel) rfl ?_
      refine vx_getR (b := 17) (idx := 18) (kd := 3) (s := 2) (fin := true) (q := 81) (by decide +kernel) (vx_Tk hT27 (by decide +kernel)) (vx_Tr hT27 (kd := 3) (by decide +kernel) (by decide +kernel) (by decide +kernel)) ?_
      refine vx_iconst (n := 0) (q := 82) (by decide +kernel) ?_
      refine vx_aload_n (n := 0) (q := 83) (by decide +kernel) rfl ?_
      refine vx_getR (b := 18) (idx := 22) (kd := 3) (s := 3) (fin := true) (q := 86) (by decide +kernel) (vx_Tk hT27 (by decide +kernel)) (vx_Tr hT27 (kd := 3) (by decide +kernel) (by decide +kernel) (by decide +kernel)) ?_
      refine vx_iconst (n := 1) (q := 87) (by decide +kernel) ?_
      refine vx_iconst (n := 4) (q := 88) (by decide +kernel) ?_
      obtain ⟨k29, H⟩ := H
      refine vx_acopy (i := .invokestatic 138) (np := 5) (cm := 0) (q := 91) (z1 := 4) (z2 := 5) (by decide +kernel) (vx_Tk hT27 (by decide +kernel)) (vx_Tk hT27 (by decide +kernel)) (vx_Tz hT27 (by decide +kernel)) (vx_Tz hT27 (by decide +kernel)) (vx_cx k29 (by decide) (by decide)) rfl (fun h28 e28 => ?_)
      have hT28 := vx_Tcp hT27 e28
      replace H := H h28 e28 hT28
      refine vx_iconst (n := 1) (q := 92) (by decide +kernel) ?_
      refine vx_retZ (q := 93) (by decide +kernel) (Or.inr rfl) ?_
      exact H
    · replace H := H.2 c26
      refine vx_iload_n (n := 1) (q := 34) (by decide +kernel) rfl ?_
      refine vx_iconst (n := (-1)) (q := 35) (by decide +kernel) ?_
      refine vx_icmp_eq (off := 13) (q := 38) (t := 48) (by decide +kernel) (by decide) (by decide) (fun _ => ?_) (fun c => absurd c (by decide))
      refine vx_aload_n (n := 0) (q := 49) (by decide +kernel) rfl ?_
      refine vx_getR (b := 20) (idx := 28) (kd := 3) (s := 5) (fin := true) (q := 52) (by decide +kernel) (vx_Tk hT (by decide +kernel)) (vx_Tr hT (kd := 3) (by decide +kernel) (by decide +kernel) (by decide +kernel)) ?_
      refine vx_iconst (n := 0) (q := 53) (by decide +kernel) ?_
      refine vx_iaload (z := 8) (q := 54) (by decide +kernel) (vx_Tk hT (by decide +kernel)) (vx_Tz hT (by decide +kernel)) (by decide) ?_
      refine vx_istore_n (n := 1) (q := 55) (lv' := [some (.ref 7), some (.int (vx_i (vx_J h 20 0)))]) (by decide +kernel) rfl ?_
      refine vx_iload_n (n := 1) (q := 56) (by decide +kernel) rfl ?_
      refine vx_iconst (n := (-1)) (q := 57) (by decide +kernel) ?_
      refine vx_icmp_eq (off := 9) (q := 60) (t := 66) (by decide +kernel) (vx_rI_J h 20 0) (by decide) (fun c30 => ?_) (fun c30 => ?_)
      · replace H := H.1 c30
        refine vx_aload_n (n := 0) (q := 67) (by decide +kernel) rfl ?_
        refine vx_getR (b := 18) (idx := 22) (kd := 3) (s := 3) (fin := true) (q := 70) (by decide +kernel) (vx_Tk hT (by decide +kernel)) (vx_Tr hT (kd := 3) (by decide +kernel) (by decide +kernel) (by decide +kernel)) ?_
        refine vx_iconst (n := 0) (q := 71) (by decide +kernel) ?_
        refine vx_aload_n (n := 0) (q := 72) (by decide +kernel) rfl ?_
        refine vx_getI (idx := 129) (kd := 3) (s := 10) (fin := false) (q := 75) (by decide +kernel) (vx_Tk hT (by decide +kernel)) ?_
        refine vx_i2l (q := 76) (by decide +kernel) (vx_rI_J h 7 10) ?_
        refine vx_lastore (z := 5) (q := 77) (by decide +kernel) (vx_Tk hT (by decide +kernel)) (vx_Tz hT (by decide +kernel)) (by decide) (fun h31 e31 => ?_)
        have hT31 := vx_TK hT e31
        replace H := H h31 e31 hT31
        refine vx_aload_n (n := 0) (q := 78) (by decide +kernel) rfl ?_
        refine vx_getR (b := 17) (idx := 18) (kd := 3) (s := 2) (fin := true) (q := 81) (by decide +kernel) (vx_Tk hT31 (by decide +kernel)) (vx_Tr hT31 (kd := 3) (by decide +kernel) (by decide +kernel) (by decide +kernel)) ?_
        refine vx_iconst (n := 0) (q := 82) (by decide +kernel) ?_
        refine vx_aload_n (n := 0) (q := 83) (by decide +kernel) rfl ?_
        refine vx_getR (b := 18) (idx := 22) (kd := 3) (s := 3) (fin := true) (q := 86) (by decide +kernel) (vx_Tk hT31 (by decide +kernel)) (vx_Tr hT31 (kd := 3) (by decide +kernel) (by decide +kernel) (by decide +kernel)) ?_
        refine vx_iconst (n := 1) (q := 87) (by decide +kernel) ?_
        refine vx_iconst (n := 4) (q := 88) (by decide +kernel) ?_
        obtain ⟨k33, H⟩ := H
        refine vx_acopy (i := .invokestatic 138) (np := 5) (cm := 0) (q := 91) (z1 := 4) (z2 := 5) (by decide +kernel) (vx_Tk hT31 (by decide +kernel)) (vx_Tk hT31 (by decide +kernel)) (vx_Tz hT31 (by decide +kernel)) (vx_Tz hT31 (by decide +kernel)) (vx_cx k33 (by decide) (by decide)) rfl (fun h32 e32 => ?_)
        have hT32 := vx_Tcp hT31 e32
        replace H := H h32 e32 hT32
        refine vx_iconst (n := 1) (q := 92) (by decide +kernel) ?_
        refine vx_retZ (q := 93) (by decide +kernel) (Or.inr rfl) ?_
        exact H
      · replace H := H.2 c30
        refine vx_aload_n (n := 0) (q := 61) (by decide +kernel) rfl ?_
        refine vx_iload_n (n := 1) (q := 62) (by decide +kernel) rfl ?_
        refine vx_callI (i := .invokevirtual 157) (how := 3) (cm := 166) (np := 2) (q := 65) (args := [.ref 7, .int (vx_i (vx_J h 20 0))]) (rest := []) (by decide +kernel) rfl rfl rfl (vx_w2 (w := 2) (ml := 2) rfl (by decide +kernel)) (vx_rcv (kd := 3) (vx_Tk hT (by decide +kernel)) (by decide +kernel)) H (fun r34 h34 hr34 hs34 H => ?_)
        have hT34 := vx_Tsh hT hs34
        replace H := H hT34
        obtain ⟨k35, H⟩ := H
        refine vx_retZ (q := 66) (by decide +kernel) k35 ?_
        exact H
-- RuleHouse$Reader.checkEnd()Z
theorem vg_152 {d : Nat} {h : ve_H} {P : Int → ve_H → Prop}  (hT : vx_T 1 625 h) (H : vx_CI d 162 [.ref 7] h (fun r1 h1 => vx_T 1 625 h1 → ((r1 = 0 → P 1 h1) ∧ (r1 ≠ 0 → vx_CI d 163 [.ref 7] h1 (fun r3 h3 => vx_T 1 625 h3 → vx_CI d 166 [.ref 7, .int (vx_i r3)] h3 (fun r4 h4 => vx_T 1 625 h4 → ((r4 = 0 → P 0 h4) ∧ (r4 ≠ 0 → P 1 h4)))))))) : vx_CI (d + 1) 152 [.ref 7] h P := by
  refine vx_enter (ml := 1) (by decide +kernel) ?_
  show vx_W _ _ 0 [some (.ref 7)] [] h _
  refine vx_aload_n (n := 0) (q := 1) (by decide +kernel) rfl ?_
  refine vx_callI (i := .invokevirtual 48) (how := 3) (cm := 162) (np := 1) (q := 4) (args := [.ref 7]) (rest := []) (by decide +kernel) rfl rfl rfl (vx_w2 (w := 1) (ml := 1) rfl (by decide +kernel)) (vx_rcv (kd := 3) (vx_Tk hT (by decide +kernel)) (by decide +kernel)) H (fun r1 h1 hr1 hs1 H => ?_)
  have hT1 := vx_Tsh hT hs1
  replace H := H hT1
  refine vx_if0_eq (off := 14) (q := 7) (t := 18) (by decide +kernel) hr1 (fun c2 => ?_) (fun c2 => ?_)
  · replace H := H.1 c2
    refine vx_iconst (n := 1) (q := 19) (by decide +kernel) ?_
    refine vx_goto (off := 4) (q := 22) (t := 23) (by decide +kernel) ?_
    refine vx_retZ (q := 24) (by decide +kernel) (Or.inr rfl) ?_
    exact H
  · replace H := H.2 c2
    refine vx_aload_n (n := 0) (q := 8) (by decide +kernel) rfl ?_
    refine vx_aload_n (n := 0) (q := 9) (by decide +kernel) rfl ?_
    refine vx_callI (i := .invokevirtual 126) (how := 3) (cm := 163) (np := 1) (q := 12) (args := [.ref 7]) (rest := [.ref 7]) (by decide +kernel) rfl rfl rfl (vx_w2 (w := 1) (ml := 1) rfl (by decide +kernel)) (vx_rcv (kd := 3) (vx_Tk hT1 (by decide +kernel)) (by decide +kernel)) H (fun r3 h3 hr3 hs3 H => ?_)
    have hT3 := vx_Tsh hT1 hs3
    replace H := H hT3
    refine vx_callI (i := .invokevirtual 157) (how := 3) (cm := 166) (np := 2) (q := 15) (args := [.ref 7, .int (vx_i r3)]) (rest := []) (by decide +kernel) rfl rfl rfl (vx_w2 (w := 2) (ml := 2) rfl (by decide +kernel)) (vx_rcv (kd := 3) (vx_Tk hT3 (by decide +kernel)) (by decide +kernel)) H (fun r4 h4 hr4 hs4 H => ?_)
    have hT4 := vx_Tsh hT3 hs4
    replace H := H hT4
    refine vx_if0_eq (off := 7) (q := 18) (t := 22) (by decide +kernel) hr4 (fun c5 => ?_) (fun c5 => ?_)
    · replace H := H.1 c5
      refine vx_iconst (n := 0) (q := 23) (by decide +kernel) ?_
      refine vx_retZ (q := 24) (by decide +kernel) (Or.inl rfl) ?_
      exact H
    · replace H := H.2 c5
      refine vx_iconst (n := 1) (q := 19) (by decide +kernel) ?_
      refine vx_goto (off := 4) (q := 22) (t := 23) (by decide +kernel) ?_
      refine vx_retZ (q := 24) (by decide +kernel) (Or.inr rfl) ?_
      exact H
-- RuleHouse$Reader.checkBound(I)V
theorem vg_153 {d : Nat} {h : ve_H} {P : ve_H → Prop} {x1 : Int} (hT : vx_T 1 625 h) (H : vx_W (d + 1) 153 2 [some (.ref 7), some (.int (vx_i x1)), some (.int (vx_i 0))] [] h (vx_RV P)) : vx_CV (d + 1) 153 [.ref 7, .int (vx_i x1)] h P := by
  refine vx_enter (ml := 3) (by decide +kernel) ?_
  show vx_W _ _ 0 [some (.ref 7), some (.int (vx_i x1)), none] [] h _
  refine vx_iconst (n := 0) (q := 1) (by decide +kernel) ?_
  refine vx_istore_n (n := 2) (q := 2) (lv' := [some (.ref 7), some (.int (vx_i x1)), some (.int (vx_i 0))]) (by decide +kernel) rfl ?_
  exact H
theorem vg_153_2 {d : Nat} {h : ve_H} {P : ve_H → Prop} {v1 : Int} {v2 : Int} (hT : vx_T 1 625 h) (H : (∃ b1, ve_R h 7 8 = some b1 ∧ vx_o 1 625 7 b1 ∧ (vx_rI v2) ∧ (((vx_J h b1 5) ≤ v2 → P h) ∧ (v2 < (vx_J h b1 5) → (((vx_and v1 (vx_shl 1 v2)) ≠ 0 → vx_W (d + 1) 153 2 [some (.ref 7), some (.int (vx_i v1)), some (.int (vx_i (v2 + 1)))] [] h (vx_RV P)) ∧ ((vx_and v1 (vx_shl 1 v2)) = 0 → (0 ≤ v2 ∧ v2 < 8) ∧ vx_CV d 167 [.ref 7, .int (vx_i 3), .int (vx_i (vx_J h 20 v2.toNat))] h (fun h6 => vx_T 1 625 h6 → vx_W (d + 1) 153 2 [some (.ref 7), some (.int (vx_i v1)), some (.int (vx_i (v2 + 1)))] [] h6 (vx_RV P)))))))) : vx_W (d + 1) 153 2 [some (.ref 7), some (.int (vx_i v1)), some (.int (vx_i v2))] [] h (vx_RV P) := by
  refine vx_iload_n (n := 2) (q := 3) (by decide +kernel) rfl ?_
  refine vx_aload_n (n := 0) (q := 4) (by decide +kernel) rfl ?_
  obtain ⟨b1, eb1, ob1, H⟩ := H
  refine vx_getR (b := b1) (idx := 36) (kd := 3) (s := 8) (fin := false) (q := 7) (by decide +kernel) (vx_Tk hT (by decide +kernel)) eb1 ?_
  refine vx_getI (idx := 166) (kd := 7) (s := 5) (fin := false) (q := 10) (by decide +kernel) (vx_Tk hT ob1) ?_
  obtain ⟨k2, H⟩ := H
  refine vx_icmp_ge (off := 28) (q := 13) (t := 38) (by decide +kernel) k2 (vx_rI_J h b1 5) (fun c3 => ?_) (fun c3 => ?_)
  · replace H := H.1 c3
    refine vx_retV (q := 39) (by decide +kernel) ?_
    exact H
  · replace H := H.2 c3
    refine vx_iload_n (n := 1) (q := 14) (by decide +kernel) rfl ?_
    refine vx_iconst (n := 1) (q := 15) (by decide +kernel) ?_
    refine vx_iload_n (n := 2) (q := 16) (by decide +kernel) rfl ?_
    refine vx_ishl (q := 17) (by decide +kernel) ?_
    refine vx_iand (q := 18) (by decide +kernel) ?_
    refine vx_if0_ne (off := 14) (q := 21) (t := 32) (by decide +kernel) (vx_rI_toInt _) (fun c4 => ?_) (fun c4 => ?_)
    · replace H := H.1 c4
      refine vx_iinc (n := 2) (m := 1) (x := v2) (q := 35) (lv' := [some (.ref 7), some (.int (vx_i v1)), some (.int (vx_i (v2 + 1)))]) (by decide +kernel) rfl rfl ?_
      refine vx_goto (off := (-33)) (q := 38) (t := 2) (by decide +kernel) ?_
      exact H
    · replace H := H.2 c4
      refine vx_aload_n (n := 0) (q := 22) (by decide +kernel) rfl ?_
      refine vx_iconst (n := 3) (q := 23) (by decide +kernel) ?_
      refine vx_aload_n (n := 0) (q := 24) (by decide +kernel) rfl ?_
      refine vx_getR (b := 20) (idx := 28) (kd := 3) (s := 5) (fin := true) (q := 27) (by decide +kernel) (vx_Tk hT (by decide +kernel)) (vx_Tr hT (kd := 3) (by decide +kernel) (by decide +kernel) (by decide +kernel)) ?_
      refine vx_iload_n (n := 2) (q := 28) (by decide +kernel) rfl ?_
      obtain ⟨k5, H⟩ := H
      refine vx_iaload (z := 8) (q := 29) (by decide +kernel) (vx_Tk hT (by decide +kernel)) (vx_Tz hT (by decide +kernel)) (vx_ix k5 (by decide)) ?_
      refine vx_callV (i := .invokevirtual 66) (how := 3) (cm := 167) (np := 3) (q := 32) (args := [.ref 7, .int (vx_i 3), .int (vx_i (vx_J h 20 v2.toNat))]) (rest := []) (by decide +kernel) rfl rfl rfl (vx_w2 (w := 3) (ml := 3) rfl (by decide +kernel)) (vx_rcv (kd := 3) (vx_Tk hT (by decide +kernel)) (by decide +kernel)) H (fun h6 hs6 H => ?_)
      have hT6 := vx_Tsh hT hs6
      replace H := H hT6
      refine vx_iinc (n := 2) (m := 1) (x := v2) (q := 35) (lv' := [some (.ref 7), some (.int (vx_i v1)), some (.int (vx_i (v2 + 1)))]) (by decide +kernel) rfl rfl ?_
      refine vx_goto (off := (-33)) (q := 38) (t := 2) (by decide +kernel) ?_
      exact H
-- RuleHouse$Reader.readBody()Z
theorem vg_154 {d : Nat} {h : ve_H} {P : Int → ve_H → Prop}  (hT : vx_T 1 625 h) (H : vx_W (d + 1) 154 4 [some (.ref 7), some (.int (vx_i 1)), some (.int (vx_i 0))] [] h (vx_RI P)) : vx_CI (d + 1) 154 [.ref 7] h P := by
  refine vx_enter (ml := 3) (by decide +kernel) ?_
  show vx_W _ _ 0 [some (.ref 7), none, none] [] h _
  refine vx_iconst (n := 1) (q := 1) (by decide +kernel) ?_
  refine vx_istore_n (n := 1) (q := 2) (lv' := [some (.ref 7), some (.int (vx_i 1)), none]) (by decide +kernel) rfl ?_
  refine vx_iconst (n := 0) (q := 3) (by decide +kernel) ?_
  refine vx_istore_n (n := 2) (q := 4) (lv' := [some (.ref 7), some (.int (vx_i 1)), some (.int (vx_i 0))]) (by decide +kernel) rfl ?_
  exact H
theorem vg_154_4 {d : Nat} {h : ve_H} {P : Int → ve_H → Prop} {v1 : Int} {v2 : Int} (hT : vx_T 1 625 h) (H : (vx_rI v2) ∧ ((6 ≤ v2 → (vx_rI v1) ∧ ((v1 = 0 → P 1 h) ∧ (v1 ≠ 0 → vx_CI d 163 [.ref 7] h (fun r5 h5 => vx_T 1 625 h5 → vx_CI d 166 [.ref 7, .int (vx_i r5)] h5 (fun r6 h6 => vx_T 1 625 h6 → ((r6 = 0 → P 0 h6) ∧ (r6 ≠ 0 → P 1 h6))))))) ∧ (v2 < 6 → (vx_rI v1) ∧ ((v1 = 0 → P 1 h) ∧ (v1 ≠ 0 → vx_CI d 155 [.ref 7, .int (vx_i v2)] h (fun r10 h10 => vx_T 1 625 h10 → ((r10 ≠ 0 → vx_CI d 164 [.ref 7, .int (vx_i 44)] h10 (fun r12 h12 => vx_T 1 625 h12 → vx_W (d + 1) 154 4 [some (.ref 7), some (.int (vx_i r12)), some (.int (vx_i (v2 + 1)))] [] h12 (vx_RI P))) ∧ (r10 = 0 → P 0 h10)))))))) : vx_W (d + 1) 154 4 [some (.ref 7), some (.int (vx_i v1)), some (.int (vx_i v2))] [] h (vx_RI P) := by
  refine vx_iload_n (n := 2) (q := 5) (by decide +kernel) rfl ?_
  refine vx_bipush (n := 6) (q := 7) (by decide +kernel) ?_
  obtain ⟨k1, H⟩ := H
  refine vx_icmp_ge (off := 30) (q := 10) (t := 37) (by decide +kernel) k1 (by decide) (fun c2 => ?_) (fun c2 => ?_)
  · replace H := H.1 c2
    refine vx_iload_n (n := 1) (q := 38) (by decide +kernel) rfl ?_
    obtain ⟨k3, H⟩ := H
    refine vx_if0_eq (off := 14) (q := 41) (t := 52) (by decide +kernel) k3 (fun c4 => ?_) (fun c4 => ?_)
    · replace H := H.1 c4
      refine vx_iconst (n := 1) (q := 53) (by decide +kernel) ?_
      refine vx_goto (off := 4) (q := 56) (t := 57) (by decide +kernel) ?_
      refine vx_retZ (q := 58) (by decide +kernel) (Or.inr rfl) ?_
      exact H
    · replace H := H.2 c4
      refine vx_aload_n (n := 0) (q := 42) (by decide +kernel) rfl ?_
      refine vx_aload_n (n := 0) (q := 43) (by decide +kernel) rfl ?_
      refine vx_callI (i := .invokevirtual 126) (how := 3) (cm := 163) (np := 1) (q := 46) (args := [.ref 7]) (rest := [.ref 7]) (by decide +kernel) rfl rfl rfl (vx_w2 (w := 1) (ml := 1) rfl (by decide +kernel)) (vx_rcv (kd := 3) (vx_Tk hT (by decide +kernel)) (by decide +kernel)) H (fun r5 h5 hr5 hs5 H => ?_)
      have hT5 := vx_Tsh hT hs5
      replace H := H hT5
      refine vx_callI (i := .invokevirtual 157) (how := 3) (cm := 166) (np := 2) (q := 49) (args := [.ref 7, .int (vx_i r5)]) (rest := []) (by decide +kernel) rfl rfl rfl (vx_w2 (w := 2) (ml := 2) rfl (by decide +kernel)) (vx_rcv (kd := 3) (vx_Tk hT5 (by decide +kernel)) (by decide +kernel)) H (fun r6 h6 hr6 hs6 H => ?_)
      have hT6 := vx_Tsh hT5 hs6
      replace H := H hT6
      refine vx_if0_eq (off := 7) (q := 52) (t := 56) (by decide +kernel) hr6 (fun c7 => ?_) (fun c7 => ?_)
      · replace H := H.1 c7
        refine vx_iconst (n := 0) (q := 57) (by decide +kernel) ?_
        refine vx_retZ (q := 58) (by decide +kernel) (Or.inl rfl) ?_
        exact H
      · replace H := H.2 c7
        refine vx_iconst (n := 1) (q := 53) (by decide +kernel) ?_
        refine vx_goto (off := 4) (q := 56) (t := 57) (by decide +kernel) ?_
        refine vx_retZ (q := 58) (by decide +kernel) (Or.inr rfl) ?_
        exact H
  · replace H := H.2 c2
    refine vx_iload_n (n := 1) (q := 11) (by decide +kernel) rfl ?_
    obtain ⟨k8, H⟩ := H
    refine vx_if0_eq (off := 26) (q := 14) (t := 37) (by decide +kernel) k8 (fun c9 => ?_) (fun c9 => ?_)
    · replace H := H.1 c9
      refine vx_iload_n (n := 1) (q := 38) (by decide +kernel) rfl ?_
      refine vx_if0_eq (off := 14) (q := 41) (t := 52) (by decide +kernel) k8 (fun _ => ?_) (fun c => absurd c (by omega))
      refine vx_iconst (n := 1) (q := 53) (by decide +kernel) ?_
      refine vx_goto (off := 4) (q := 56) (t := 57) (by decide +kernel) ?_
      refine vx_retZ (q := 58) (by decide +kernel) (Or.inr rfl) ?_
      exact H
    · replace H := H.2 c9
      refine vx_aload_n (n := 0) (q := 15) (by decide +kernel) rfl ?_
      refine vx_iload_n (n := 2) (q := 16) (by decide +kernel) rfl ?_
      refine vx_callI (i := .invokevirtual 169) (how := 3) (cm := 155) (np := 2) (q := 19) (args := [.ref 7, .int (vx_i v2)]) (rest := []) (by decide +kernel) rfl rfl rfl (vx_w2 (w := 2) (ml := 2) rfl (by decide +kernel)) (vx_rcv (kd := 3) (vx_Tk hT (by decide +kernel)) (by decide +kernel)) H (fun r10 h10 hr10 hs10 H => ?_)
      have hT10 := vx_Tsh hT hs10
      replace H := H hT10
      refine vx_if0_ne (off := 5) (q := 22) (t := 24) (by decide +kernel) hr10 (fun c11 => ?_) (fun c11 => ?_)
      · replace H := H.1 c11
        refine vx_aload_n (n := 0) (q := 25) (by decide +kernel) rfl ?_
        refine vx_bipush (n := 44) (q := 27) (by decide +kernel) ?_
        refine vx_callI (i := .invokevirtual 144) (how := 3) (cm := 164) (np := 2) (q := 30) (args := [.ref 7, .int (vx_i 44)]) (rest := []) (by decide +kernel) rfl rfl rfl (vx_w2 (w := 2) (ml := 2) rfl (by decide +kernel)) (vx_rcv (kd := 3) (vx_Tk hT10 (by decide +kernel)) (by decide +kernel)) H (fun r12 h12 hr12 hs12 H => ?_)
        have hT12 := vx_Tsh hT10 hs12
        replace H := H hT12
        refine vx_istore_n (n := 1) (q := 31) (lv' := [some (.ref 7), some (.int (vx_i r12)), some (.int (vx_i v2))]) (by decide +kernel) rfl ?_
        refine vx_iinc (n := 2) (m := 1) (x := v2) (q := 34) (lv' := [some (.ref 7), some (.int (vx_i r12)), some (.int (vx_i (v2 + 1)))]) (by decide +kernel) rfl rfl ?_
        refine vx_goto (off := (-30)) (q := 37) (t := 4) (by decide +kernel) ?_
        exact H
      · replace H := H.2 c11
        refine vx_iconst (n := 0) (q := 23) (by decide +kernel) ?_
        refine vx_retZ (q := 24) (by decide +kernel) (Or.inl rfl) ?_
        exact H
-- RuleHouse$Reader.readLiteral(I)Z
theorem vg_155 {d : Nat} {h : ve_H} {P : Int → ve_H → Prop} {x1 : Int} (hT : vx_T 1 625 h) (H : (∃ b1, ve_R h 7 8 = some b1 ∧ vx_o 1 625 7 b1 ∧ vx_CI d 163 [.ref 7] h (fun r2 h2 => vx_T 1 625 h2 → (0 ≤ x1 ∧ x1 < 6) ∧ (∀ h4, h4 = vx_sJ h2 (vx_r b1 10) x1.toNat r2 → vx_T 1 625 h4 → vx_CI d 164 [.ref 7, .int (vx_i 33)] h4 (fun r5 h5 => vx_T 1 625 h5 → ((r5 = 0 → vx_CI d 162 [.ref 7] h5 (fun r7 h7 => vx_T 1 625 h7 → ((r7 ≠ 2 → vx_CI d 156 [.ref 7, .int (vx_i x1)] h7 (fun r9 h9 => vx_T 1 625 h9 → (r9 = 0 ∨ r9 = 1) ∧ P r9 h9)) ∧ (r7 = 2 → (0 ≤ ((vx_J h7 7 9) + 1) ∧ ((vx_J h7 7 9) + 1) < 601) ∧ (((vx_J h7 4 ((vx_J h7 7 9) + 1).toNat) = 40 → (∃ b13, ve_R h7 7 8 = some b13 ∧ vx_o 1 625 7 b13 ∧ (((vx_J h7 b13 7) < 3 → (∀ h15, h15 = vx_sJ h7 b13 7 ((vx_J h7 b13 7) + 1) → vx_T 1 625 h15 → vx_CI d 157 [.ref 7, .int (vx_i 14)] h15 (fun r16 h16 => vx_T 1 625 h16 → ((r16 ≠ 0 → (∃ b18, ve_R h16 7 8 = some b18 ∧ vx_o 1 625 7 b18 ∧ vx_CV d 183 [.ref b18, .int (vx_i x1), .int (vx_i 14), .int (vx_i (vx_J h16 7 10)), .ref 17] h16 (fun h19 => vx_T 1 625 h19 → P 1 h19))) ∧ (r16 = 0 → P 0 h16))))) ∧ (3 ≤ (vx_J h7 b13 7) → vx_CI d 163 [.ref 7] h7 (fun r20 h20 => vx_T 1 625 h20 → vx_CI d 166 [.ref 7, .int (vx_i r20)] h20 (fun r21 h21 => vx_T 1 625 h21 → (r21 = 0 ∨ r21 = 1) ∧ P r21 h21)))))) ∧ ((vx_J h7 4 ((vx_J h7 7 9) + 1).toNat) ≠ 40 → vx_CI d 156 [.ref 7, .int (vx_i x1)] h7 (fun r23 h23 => vx_T 1 625 h23 → (r23 = 0 ∨ r23 = 1) ∧ P r23 h23))))))) ∧ (r5 ≠ 0 → vx_CI d 157 [.ref 7, .int (vx_i 15)] h5 (fun r25 h25 => vx_T 1 625 h25 → ((r25 ≠ 0 → (∃ b27, ve_R h25 7 8 = some b27 ∧ vx_o 1 625 7 b27 ∧ vx_CV d 183 [.ref b27, .int (vx_i x1), .int (vx_i 15), .int (vx_i (vx_J h25 7 10)), .ref 17] h25 (fun h28 => vx_T 1 625 h28 → P 1 h28))) ∧ (r25 = 0 → P 0 h25)))))))))) : vx_CI (d + 1) 155 [.ref 7, .int (vx_i x1)] h P := by
  refine vx_enter (ml := 2) (by decide +kernel) ?_
  show vx_W _ _ 0 [some (.ref 7), some (.int (vx_i x1))] [] h _
  refine vx_aload_n (n := 0) (q := 1) (by decide +kernel) rfl ?_
  obtain ⟨b1, eb1, ob1, H⟩ := H
  refine vx_getR (b := b1) (idx := 36) (kd := 3) (s := 8) (fin := false) (q := 4) (by decide +kernel) (vx_Tk hT (by decide +kernel)) eb1 ?_
  refine vx_getR (b := vx_r b1 10) (idx := 172) (kd := 7) (s := 10) (fin := true) (q := 7) (by decide +kernel) (vx_Tk hT ob1) (vx_Tr hT (kd := 7) ob1 (by decide +kernel) (vx_f7_10 ob1).1) ?_
  refine vx_iload_n (n := 1) (q := 8) (by decide +kernel) rfl ?_
  refine vx_aload_n (n := 0) (q := 9) (by decide +kernel) rfl ?_
  refine vx_callI (i := .invokevirtual 126) (how := 3) (cm := 163) (np := 1) (q := 12) (args := [.ref 7]) (rest := [.int (vx_i x1), .ref (vx_r b1 10)]) (by decide +kernel) rfl rfl rfl (vx_w2 (w := 1) (ml := 1) rfl (by decide +kernel)) (vx_rcv (kd := 3) (vx_Tk hT (by decide +kernel)) (by decide +kernel)) H (fun r2 h2 hr2 hs2 H => ?_)
  have hT2 := vx_Tsh hT hs2
  replace H := H hT2
  obtain ⟨k3, H⟩ := H
  refine vx_iastore (z := 6) (q := 13) (by decide +kernel) (vx_Tk hT2 (vx_f7_10 ob1).2.1) (vx_Tz hT2 ⟨(vx_f7_10 ob1).2.1.1, (vx_f7_10 ob1).2.2⟩) (vx_ix k3 (by decide)) (fun h4 e4 => ?_)
  have hT4 := vx_TJ hT2 e4
  replace H := H h4 e4 hT4
  refine vx_aload_n (n := 0) (q := 14) (by decide +kernel) rfl ?_
  refine vx_bipush (n := 33) (q := 16) (by decide +kernel) ?_
  refine vx_callI (i := .invokevirtual 144) (how := 3) (cm := 164) (np := 2) (q := 19) (args := [.ref 7, .int (vx_i 33)]) (rest := []) (by decide +kernel) rfl rfl rfl (vx_w2 (w := 2) (ml := 2) rfl (by decide +kernel)) (vx_rcv (kd := 3) (vx_Tk hT4 (by decide +kernel)) (by decide +kernel)) H (fun r5 h5 hr5 hs5 H => ?_)
  have hT5 := vx_Tsh hT4 hs5
  replace H := H hT5
  refine vx_if0_eq (off := 34) (q := 22) (t := 53) (by decide +kernel) hr5 (fun c6 => ?_) (fun c6 => ?_)
  · replace H := H.1 c6
    refine vx_aload_n (n := 0) (q := 54) (by decide +kernel) rfl ?_
    refine vx_callI (i := .invokevirtual 48) (how := 3) (cm := 162) (np := 1) (q := 57) (args := [.ref 7]) (rest := []) (by decide +kernel) rfl rfl rfl (vx_w2 (w := 1) (ml := 1) rfl (by decide +kernel)) (vx_rcv (kd := 3) (vx_Tk hT5 (by decide +kernel)) (by decide +kernel)) H (fun r7 h7 hr7 hs7 H => ?_)
    have hT7 := vx_Tsh hT5 hs7
    replace H := H hT7
    refine vx_iconst (n := 2) (q := 58) (by decide +kernel) ?_
    refine vx_icmp_ne (off := 22) (q := 61) (t := 80) (by decide +kernel) hr7 (by decide) (fun c8 => ?_) (fun c8 => ?_)
    · replace H := H.1 c8
      refine vx_aload_n (n := 0) (q := 81) (by decide +kernel) rfl ?_
      refine vx_iload_n (n := 1) (q := 82) (by decide +kernel) rfl ?_
      refine vx_callI (i := .invokevirtual 180) (how := 3) (cm := 156) (np := 2) (q := 85) (args := [.ref 7, .int (vx_i x1)]) (rest := []) (by decide +kernel) rfl rfl rfl (vx_w2 (w := 2) (ml := 6) rfl (by decide +kernel)) (vx_rcv (kd := 3) (vx_Tk hT7 (by decide +kernel)) (by decide +kernel)) H (fun r9 h9 hr9 hs9 H => ?_)
      have hT9 := vx_Tsh hT7 hs9
      replace H := H hT9
      obtain ⟨k10, H⟩ := H
      refine vx_retZ (q := 86) (by decide +kernel) k10 ?_
      exact H
    · replace H := H.2 c8
      refine vx_aload_n (n := 0) (q := 62) (by decide +kernel) rfl ?_
      refine vx_getR (b := 2) (idx := 32) (kd := 3) (s := 0) (fin := true) (q := 65) (by decide +kernel) (vx_Tk hT7 (by decide +kernel)) (vx_Tr hT7 (kd := 3) (by decide +kernel) (by decide +kernel) (by decide +kernel)) ?_
      refine vx_getR (b := 4) (idx := 178) (kd := 2) (s := 1) (fin := true) (q := 68) (by decide +kernel) (vx_Tk hT7 (by decide +kernel)) (vx_Tr hT7 (kd := 2) (by decide +kernel) (by decide +kernel) (by decide +kernel)) ?_
      refine vx_aload_n (n := 0) (q := 69) (by decide +kernel) rfl ?_
      refine vx_getI (idx := 108) (kd := 3) (s := 9) (fin := false) (q := 72) (by decide +kernel) (vx_Tk hT7 (by decide +kernel)) ?_
      refine vx_iconst (n := 1) (q := 73) (by decide +kernel) ?_
      refine vx_iadd (q := 74) (by decide +kernel) ?_
      obtain ⟨k11, H⟩ := H
      refine vx_iaload (z := 601) (q := 75) (by decide +kernel) (vx_Tk hT7 (by decide +kernel)) (vx_Tz hT7 (by decide +kernel)) (vx_ix k11 (by decide)) ?_
      refine vx_bipush (n := 40) (q := 77) (by decide +kernel) ?_
      refine vx_icmp_eq (off := 9) (q := 80) (t := 86) (by decide +kernel) (vx_rI_J h7 4 ((vx_J h7 7 9) + 1).toNat) (by decide) (fun c12 => ?_) (fun c12 => ?_)
      · replace H := H.1 c12
        refine vx_aload_n (n := 0) (q := 87) (by decide +kernel) rfl ?_
        obtain ⟨b13, eb13, ob13, H⟩ := H
        refine vx_getR (b := b13) (idx := 36) (kd := 3) (s := 8) (fin := false) (q := 90) (by decide +kernel) (vx_Tk hT7 (by decide +kernel)) eb13 ?_
        refine vx_getI (idx := 183) (kd := 7) (s := 7) (fin := false) (q := 93) (by decide +kernel) (vx_Tk hT7 ob13) ?_
        refine vx_iconst (n := 3) (q := 94) (by decide +kernel) ?_
        refine vx_icmp_lt (off := 12) (q := 97) (t := 106) (by decide +kernel) (vx_rI_J h7 b13 7) (by decide) (fun c14 => ?_) (fun c14 => ?_)
        · replace H := H.1 c14
          refine vx_aload_n (n := 0) (q := 107) (by decide +kernel) rfl ?_
          refine vx_getR (b := b13) (idx := 36) (kd := 3) (s := 8) (fin := false) (q := 110) (by decide +kernel) (vx_Tk hT7 (by decide +kernel)) eb13 ?_
          refine vx_dupR (q := 111) (by decide +kernel) ?_
          refine vx_getI (idx := 183) (kd := 7) (s := 7) (fin := false) (q := 114) (by decide +kernel) (vx_Tk hT7 ob13) ?_
          refine vx_iconst (n := 1) (q := 115) (by decide +kernel) ?_
          refine vx_iadd (q := 116) (by decide +kernel) ?_
          refine vx_putI (idx := 183) (kd := 7) (s := 7) (fin := false) (q := 119) (by decide +kernel) (vx_Tk hT7 ob13) (fun h15 e15 => ?_)
          have hT15 := vx_TJ hT7 e15
          replace H := H h15 e15 hT15
          refine vx_aload_n (n := 0) (q := 120) (by decide +kernel) rfl ?_
          refine vx_bipush (n := 14) (q := 122) (by decide +kernel) ?_
          refine vx_callI (i := .invokevirtual 77) (how := 3) (cm := 157) (np := 2) (q := 125) (args := [.ref 7, .int (vx_i 14)]) (rest := []) (by decide +kernel) rfl rfl rfl (vx_w2 (w := 2) (ml := 7) rfl (by decide +kernel)) (vx_rcv (kd := 3) (vx_Tk hT15 (by decide +kernel)) (by decide +kernel)) H (fun r16 h16 hr16 hs16 H => ?_)
          have hT16 := vx_Tsh hT15 hs16
          replace H := H hT16
          refine vx_if0_ne (off := 5) (q := 128) (t := 130) (by decide +kernel) hr16 (fun c17 => ?_) (fun c17 => ?_)
          · replace H := H.1 c17
            refine vx_aload_n (n := 0) (q := 131) (by decide +kernel) rfl ?_
            obtain ⟨b18, eb18, ob18, H⟩ := H
            refine vx_getR (b := b18) (idx := 36) (kd := 3) (s := 8) (fin := false) (q := 134) (by decide +kernel) (vx_Tk hT16 (by decide +kernel)) eb18 ?_
            refine vx_iload_n (n := 1) (q := 135) (by decide +kernel) rfl ?_
            refine vx_bipush (n := 14) (q := 137) (by decide +kernel) ?_
            refine vx_aload_n (n := 0) (q := 138) (by decide +kernel) rfl ?_
            refine vx_getI (idx := 129) (kd := 3) (s := 10) (fin := false) (q := 141) (by decide +kernel) (vx_Tk hT16 (by decide +kernel)) ?_
            refine vx_aload_n (n := 0) (q := 142) (by decide +kernel) rfl ?_
            refine vx_getR (b := 17) (idx := 18) (kd := 3) (s := 2) (fin := true) (q := 145) (by decide +kernel) (vx_Tk hT16 (by decide +kernel)) (vx_Tr hT16 (kd := 3) (by decide +kernel) (by decide +kernel) (by decide +kernel)) ?_
            refine vx_callV (i := .invokevirtual 174) (how := 3) (cm := 183) (np := 5) (q := 148) (args := [.ref b18, .int (vx_i x1), .int (vx_i 14), .int (vx_i (vx_J h16 7 10)), .ref 17]) (rest := []) (by decide +kernel) rfl rfl rfl (vx_w2 (w := 5) (ml := 5) rfl (by decide +kernel)) (vx_rcv (kd := 7) (vx_Tk hT16 ob18) (by decide +kernel)) H (fun h19 hs19 H => ?_)
            have hT19 := vx_Tsh hT16 hs19
            replace H := H hT19
            refine vx_iconst (n := 1) (q := 149) (by decide +kernel) ?_
            refine vx_retZ (q := 150) (by decide +kernel) (Or.inr rfl) ?_
            exact H
          · replace H := H.2 c17
            refine vx_iconst (n := 0) (q := 129) (by decide +kernel) ?_
            refine vx_retZ (q := 130) (by decide +kernel) (Or.inl rfl) ?_
            exact H
        · replace H := H.2 c14
          refine vx_aload_n (n := 0) (q := 98) (by decide +kernel) rfl ?_
          refine vx_aload_n (n := 0) (q := 99) (by decide +kernel) rfl ?_
          refine vx_callI (i := .invokevirtual 126) (how := 3) (cm := 163) (np := 1) (q := 102) (args := [.ref 7]) (rest := [.ref 7]) (by decide +kernel) rfl rfl rfl (vx_w2 (w := 1) (ml := 1) rfl (by decide +kernel)) (vx_rcv (kd := 3) (vx_Tk hT7 (by decide +kernel)) (by decide +kernel)) H (fun r20 h20 hr20 hs20 H => ?_)
          have hT20 := vx_Tsh hT7 hs20
          replace H := H hT20
          refine vx_callI (i := .invokevirtual 157) (how := 3) (cm := 166) (np := 2) (q := 105) (args := [.ref 7, .int (vx_i r20)]) (rest := []) (by decide +kernel) rfl rfl rfl (vx_w2 (w := 2) (ml := 2) rfl (by decide +kernel)) (vx_rcv (kd := 3) (vx_Tk hT20 (by decide +kernel)) (by decide +kernel)) H (fun r21 h21 hr21 hs21 H => ?_)
          have hT21 := vx_Tsh hT20 hs21
          replace H := H hT21
          obtain ⟨k22, H⟩ := H
          refine vx_retZ (q := 106) (by decide +kernel) k22 ?_
          exact H
      · replace H := H.2 c12
        refine vx_aload_n (n := 0) (q := 81) (by decide +kernel) rfl ?_
        refine vx_iload_n (n := 1) (q := 82) (by decide +kernel) rfl ?_
        refine vx_callI (i := .invokevirtual 180) (how := 3) (cm := 156) (np := 2) (q := 85) (args := [.ref 7, .int (vx_i x1)]) (rest := []) (by decide +kernel) rfl rfl rfl (vx_w2 (w := 2) (ml := 6) rfl (by decide +kernel)) (vx_rcv (kd := 3) (vx_Tk hT7 (by decide +kernel)) (by decide +kernel)) H (fun r23 h23 hr23 hs23 H => ?_)
        have hT23 := vx_Tsh hT7 hs23
        replace H := H hT23
        obtain ⟨k24, H⟩ := H
        refine vx_retZ (q := 86) (by decide +kernel) k24 ?_
        exact H
  · replace H := H.2 c6
    refine vx_aload_n (n := 0) (q := 23) (by decide +kernel) rfl ?_
    refine vx_bipush (n := 15) (q := 25) (by decide +kernel) ?_
    refine vx_callI (i := .invokevirtual 77) (how := 3) (cm := 157) (np := 2) (q := 28) (args := [.ref 7, .int (vx_i 15)]) (rest := []) (by decide +kernel) rfl rfl rfl (vx_w2 (w := 2) (ml := 7) rfl (by decide +kernel)) (vx_rcv (kd := 3) (vx_Tk hT5 (by decide +kernel)) (by decide +kernel)) H (fun r25 h25 hr25 hs25 H => ?_)
    have hT25 := vx_Tsh hT5 hs25
    replace H := H hT25
    refine vx_if0_ne (off := 5) (q := 31) (t := 33) (by decide +kernel) hr25 (fun c26 => ?_) (fun c26 => ?_)
    · replace H := H.1 c26
      refine vx_aload_n (n := 0) (q := 34) (by decide +kernel) rfl ?_
      obtain ⟨b27, eb27, ob27, H⟩ := H
      refine vx_getR (b := b27) (idx := 36) (kd := 3) (s := 8) (fin := false) (q := 37) (by decide +kernel) (vx_Tk hT25 (by decide +kernel)) eb27 ?_
      refine vx_iload_n (n := 1) (q := 38) (by decide +kernel) rfl ?_
      refine vx_bipush (n := 15) (q := 40) (by decide +kernel) ?_
      refine vx_aload_n (n := 0) (q := 41) (by decide +kernel) rfl ?_
      refine vx_getI (idx := 129) (kd := 3) (s := 10) (fin := false) (q := 44) (by decide +kernel) (vx_Tk hT25 (by decide +kernel)) ?_
      refine vx_aload_n (n := 0) (q := 45) (by decide +kernel) rfl ?_
      refine vx_getR (b := 17) (idx := 18) (kd := 3) (s := 2) (fin := true) (q := 48) (by decide +kernel) (vx_Tk hT25 (by decide +kernel)) (vx_Tr hT25 (kd := 3) (by decide +kernel) (by decide +kernel) (by decide +kernel)) ?_
      refine vx_callV (i := .invokevirtual 174) (how := 3) (cm := 183) (np := 5) (q := 51) (args := [.ref b27, .int (vx_i x1), .int (vx_i 15), .int (vx_i (vx_J h25 7 10)), .ref 17]) (rest := []) (by decide +kernel) rfl rfl rfl (vx_w2 (w := 5) (ml := 5) rfl (by decide +kernel)) (vx_rcv (kd := 7) (vx_Tk hT25 ob27) (by decide +kernel)) H (fun h28 hs28 H => ?_)
      have hT28 := vx_Tsh hT25 hs28
      replace H := H hT28
      refine vx_iconst (n := 1) (q := 52) (by decide +kernel) ?_
      refine vx_retZ (q := 53) (by decide +kernel) (Or.inr rfl) ?_
      exact H
    · replace H := H.2 c26
      refine vx_iconst (n := 0) (q := 32) (by decide +kernel) ?_
      refine vx_retZ (q := 33) (by decide +kernel) (Or.inl rfl) ?_
      exact H
-- RuleHouse$Reader.readRelation(I)Z
theorem vg_156 {d : Nat} {h : ve_H} {P : Int → ve_H → Prop} {x1 : Int} (hT : vx_T 1 625 h) (H : vx_CV d 218 [.ref 17, .long (vx_l 0)] h (fun h1 => vx_T 1 625 h1 → vx_CI d 162 [.ref 7] h1 (fun r2 h2 => vx_T 1 625 h2 → ((r2 ≠ 3 → vx_CI d 160 [.ref 7, .int (vx_i 0), .int (vx_i 17)] h2 (fun r4 h4 => vx_T 1 625 h4 → ((r4 ≠ 0 → vx_CI d 162 [.ref 7] h4 (fun r6 h6 => vx_T 1 625 h6 → vx_CI d 169 [.int (vx_i r6)] h6 (fun r7 h7 => vx_T 1 625 h7 → ((r7 ≠ 0 → (∀ h9, h9 = vx_sJ h7 7 9 ((vx_J h7 7 9) + 1) → vx_T 1 625 h9 → vx_CI d 160 [.ref 7, .int (vx_i 1), .int (vx_i 17)] h9 (fun r10 h10 => vx_T 1 625 h10 → ((r10 ≠ 0 → vx_CI d 162 [.ref 7] h10 (fun r12 h12 => vx_T 1 625 h12 → (∃ b13, ve_R h12 7 8 = some b13 ∧ vx_o 1 625 7 b13 ∧ vx_CV d 183 [.ref b13, .int (vx_i x1), .int (vx_i r6), .int (vx_i r12), .ref 17] h12 (fun h14 => vx_T 1 625 h14 → P 1 h14)))) ∧ (r10 = 0 → P 0 h10))))) ∧ (r7 = 0 → vx_CI d 163 [.ref 7] h7 (fun r15 h15 => vx_T 1 625 h15 → vx_CI d 166 [.ref 7, .int (vx_i r15)] h15 (fun r16 h16 => vx_T 1 625 h16 → (r16 = 0 ∨ r16 = 1) ∧ P r16 h16))))))) ∧ (r4 = 0 → P 0 h4)))) ∧ (r2 = 3 → vx_CI d 160 [.ref 7, .int (vx_i 0), .int (vx_i 17)] h2 (fun r18 h18 => vx_T 1 625 h18 → ((r18 ≠ 0 → vx_CI d 162 [.ref 7] h18 (fun r20 h20 => vx_T 1 625 h20 → ((r20 ≠ 5 → vx_CI d 169 [.int (vx_i r20)] h20 (fun r22 h22 => vx_T 1 625 h22 → ((r22 ≠ 0 → (∀ h24, h24 = vx_sJ h22 7 9 ((vx_J h22 7 9) + 1) → vx_T 1 625 h24 → vx_CI d 160 [.ref 7, .int (vx_i 1), .int (vx_i 17)] h24 (fun r25 h25 => vx_T 1 625 h25 → ((r25 ≠ 0 → vx_CI d 162 [.ref 7] h25 (fun r27 h27 => vx_T 1 625 h27 → (∃ b28, ve_R h27 7 8 = some b28 ∧ vx_o 1 625 7 b28 ∧ vx_CV d 183 [.ref b28, .int (vx_i x1), .int (vx_i r20), .int (vx_i r27), .ref 17] h27 (fun h29 => vx_T 1 625 h29 → P 1 h29)))) ∧ (r25 = 0 → P 0 h25))))) ∧ (r22 = 0 → vx_CI d 163 [.ref 7] h22 (fun r30 h30 => vx_T 1 625 h30 → vx_CI d 166 [.ref 7, .int (vx_i r30)] h30 (fun r31 h31 => vx_T 1 625 h31 → (r31 = 0 ∨ r31 = 1) ∧ P r31 h31)))))) ∧ (r20 = 5 → (∀ h33, h33 = vx_sJ h20 7 9 ((vx_J h20 7 9) + 1) → vx_T 1 625 h33 → vx_CI d 160 [.ref 7, .int (vx_i 1), .int (vx_i 17)] h33 (fun r34 h34 => vx_T 1 625 h34 → ((r34 ≠ 0 → vx_CI d 162 [.ref 7] h34 (fun r36 h36 => vx_T 1 625 h36 → vx_CI d 170 [.int (vx_i r36)] h36 (fun r37 h37 => vx_T 1 625 h37 → ((r37 ≠ 0 → (∀ h39, h39 = vx_sJ h37 7 9 ((vx_J h37 7 9) + 1) → vx_T 1 625 h39 → vx_CI d 160 [.ref 7, .int (vx_i 2), .int (vx_i 17)] h39 (fun r40 h40 => vx_T 1 625 h40 → ((r40 ≠ 0 → (∃ b42, ve_R h40 7 8 = some b42 ∧ vx_o 1 625 7 b42 ∧ vx_CV d 183 [.ref b42, .int (vx_i x1), .int (vx_i r20), .int (vx_i r36), .ref 17] h40 (fun h43 => vx_T 1 625 h43 → P 1 h43))) ∧ (r40 = 0 → P 0 h40))))) ∧ (r37 = 0 → vx_CI d 163 [.ref 7] h37 (fun r44 h44 => vx_T 1 625 h44 → vx_CI d 166 [.ref 7, .int (vx_i r44)] h44 (fun r45 h45 => vx_T 1 625 h45 → (r45 = 0 ∨ r45 = 1) ∧ P r45 h45))))))) ∧ (r34 = 0 → P 0 h34)))))))) ∧ (r18 = 0 → P 0 h18)))))))) : vx_CI (d + 1) 156 [.ref 7, .int (vx_i x1)] h P := by
  refine vx_enter (ml := 6) (by decide +kernel) ?_
  show vx_W _ _ 0 [some (.ref 7), some (.int (vx_i x1)), none, none, none, none] [] h _
  refine vx_aload_n (n := 0) (q := 1) (by decide +kernel) rfl ?_
  refine vx_getR (b := 17) (idx := 18) (kd := 3) (s := 2) (fin := true) (q := 4) (by decide +kernel) (vx_Tk hT (by decide +kernel)) (vx_Tr hT (kd := 3) (by decide +kernel) (by decide +kernel) (by decide +kernel)) ?_
  refine vx_lconst (n := 0) (m := 0) (q := 5) (by decide +kernel) ?_
  refine vx_callV (i := .invokestatic 186) (how := 4) (cm := 218) (np := 2) (q := 8) (args := [.ref 17, .long (vx_l 0)]) (rest := []) (by decide +kernel) rfl rfl rfl (vx_w2 (w := 3) (ml := 5) rfl (by decide +kernel)) rfl H (fun h1 hs1 H => ?_)
  have hT1 := vx_Tsh hT hs1
  replace H := H hT1
  refine vx_aload_n (n := 0) (q := 9) (by decide +kernel) rfl ?_
  refine vx_callI (i := .invokevirtual 48) (how := 3) (cm := 162) (np := 1) (q := 12) (args := [.ref 7]) (rest := []) (by decide +kernel) rfl rfl rfl (vx_w2 (w := 1) (ml := 1) rfl (by decide +kernel)) (vx_rcv (kd := 3) (vx_Tk hT1 (by decide +kernel)) (by decide +kernel)) H (fun r2 h2 hr2 hs2 H => ?_)
  have hT2 := vx_Tsh hT1 hs2
  replace H := H hT2
  refine vx_iconst (n := 3) (q := 13) (by decide +kernel) ?_
  refine vx_icmp_ne (off := 7) (q := 16) (t := 20) (by decide +kernel) hr2 (by decide) (fun c3 => ?_) (fun c3 => ?_)
  · replace H := H.1 c3
    refine vx_iconst (n := 0) (q := 21) (by decide +kernel) ?_
    refine vx_istore_n (n := 2) (q := 22) (lv' := [some (.ref 7), some (.int (vx_i x1)), some (.int (vx_i 0)), none, none, none]) (by decide +kernel) rfl ?_
    refine vx_aload_n (n := 0) (q := 23) (by decide +kernel) rfl ?_
    refine vx_iconst (n := 0) (q := 24) (by decide +kernel) ?_
    refine vx_bipush (n := 17) (q := 26) (by decide +kernel) ?_
    refine vx_callI (i := .invokevirtual 192) (how := 3) (cm := 160) (np := 3) (q := 29) (args := [.ref 7, .int (vx_i 0), .int (vx_i 17)]) (rest := []) (by decide +kernel) rfl rfl rfl (vx_w2 (w := 3) (ml := 6) rfl (by decide +kernel)) (vx_rcv (kd := 3) (vx_Tk hT2 (by decide +kernel)) (by decide +kernel)) H (fun r4 h4 hr4 hs4 H => ?_)
    have hT4 := vx_Tsh hT2 hs4
    replace H := H hT4
    refine vx_if0_ne (off := 5) (q := 32) (t := 34) (by decide +kernel) hr4 (fun c5 => ?_) (fun c5 => ?_)
    · replace H := H.1 c5
      refine vx_aload_n (n := 0) (q := 35) (by decide +kernel) rfl ?_
      refine vx_callI (i := .invokevirtual 48) (how := 3) (cm := 162) (np := 1) (q := 38) (args := [.ref 7]) (rest := []) (by decide +kernel) rfl rfl rfl (vx_w2 (w := 1) (ml := 1) rfl (by decide +kernel)) (vx_rcv (kd := 3) (vx_Tk hT4 (by decide +kernel)) (by decide +kernel)) H (fun r6 h6 hr6 hs6 H => ?_)
      have hT6 := vx_Tsh hT4 hs6
      replace H := H hT6
      refine vx_istore_n (n := 3) (q := 39) (lv' := [some (.ref 7), some (.int (vx_i x1)), some (.int (vx_i 0)), some (.int (vx_i r6)), none, none]) (by decide +kernel) rfl ?_
      refine vx_iload_n (n := 2) (q := 40) (by decide +kernel) rfl ?_
      refine vx_if0_eq (off := 12) (q := 43) (t := 52) (by decide +kernel) (by decide) (fun _ => ?_) (fun c => absurd c (by decide))
      refine vx_iconst (n := 0) (q := 53) (by decide +kernel) ?_
      refine vx_istore (n := 4) (q := 55) (lv' := [some (.ref 7), some (.int (vx_i x1)), some (.int (vx_i 0)), some (.int (vx_i r6)), some (.int (vx_i 0)), none]) (by decide +kernel) rfl ?_
      refine vx_iload (n := 4) (q := 57) (by decide +kernel) rfl ?_
      refine vx_if0_ne (off := 19) (q := 60) (t := 76) (by decide +kernel) (by decide) (fun c => absurd c (by decide)) (fun _ => ?_)
      refine vx_iload_n (n := 3) (q := 61) (by decide +kernel) rfl ?_
      refine vx_callI (i := .invokestatic 196) (how := 4) (cm := 169) (np := 1) (q := 64) (args := [.int (vx_i r6)]) (rest := []) (by decide +kernel) rfl rfl rfl (vx_w2 (w := 1) (ml := 1) rfl (by decide +kernel)) rfl H (fun r7 h7 hr7 hs7 H => ?_)
      have hT7 := vx_Tsh hT6 hs7
      replace H := H hT7
      refine vx_if0_ne (off := 12) (q := 67) (t := 76) (by decide +kernel) hr7 (fun c8 => ?_) (fun c8 => ?_)
      · replace H := H.1 c8
        refine vx_aload_n (n := 0) (q := 77) (by decide +kernel) rfl ?_
        refine vx_dupR (q := 78) (by decide +kernel) ?_
        refine vx_getI (idx := 108) (kd := 3) (s := 9) (fin := false) (q := 81) (by decide +kernel) (vx_Tk hT7 (by decide +kernel)) ?_
        refine vx_iconst (n := 1) (q := 82) (by decide +kernel) ?_
        refine vx_iadd (q := 83) (by decide +kernel) ?_
        refine vx_putI (idx := 108) (kd := 3) (s := 9) (fin := false) (q := 86) (by decide +kernel) (vx_Tk hT7 (by decide +kernel)) (fun h9 e9 => ?_)
        have hT9 := vx_TJ hT7 e9
        replace H := H h9 e9 hT9
        refine vx_aload_n (n := 0) (q := 87) (by decide +kernel) rfl ?_
        refine vx_iconst (n := 1) (q := 88) (by decide +kernel) ?_
        refine vx_bipush (n := 17) (q := 90) (by decide +kernel) ?_
        refine vx_callI (i := .invokevirtual 192) (how := 3) (cm := 160) (np := 3) (q := 93) (args := [.ref 7, .int (vx_i 1), .int (vx_i 17)]) (rest := []) (by decide +kernel) rfl rfl rfl (vx_w2 (w := 3) (ml := 6) rfl (by decide +kernel)) (vx_rcv (kd := 3) (vx_Tk hT9 (by decide +kernel)) (by decide +kernel)) H (fun r10 h10 hr10 hs10 H => ?_)
        have hT10 := vx_Tsh hT9 hs10
        replace H := H hT10
        refine vx_if0_ne (off := 5) (q := 96) (t := 98) (by decide +kernel) hr10 (fun c11 => ?_) (fun c11 => ?_)
        · replace H := H.1 c11
          refine vx_aload_n (n := 0) (q := 99) (by decide +kernel) rfl ?_
          refine vx_callI (i := .invokevirtual 48) (how := 3) (cm := 162) (np := 1) (q := 102) (args := [.ref 7]) (rest := []) (by decide +kernel) rfl rfl rfl (vx_w2 (w := 1) (ml := 1) rfl (by decide +kernel)) (vx_rcv (kd := 3) (vx_Tk hT10 (by decide +kernel)) (by decide +kernel)) H (fun r12 h12 hr12 hs12 H => ?_)
          have hT12 := vx_Tsh hT10 hs12
          replace H := H hT12
          refine vx_istore (n := 5) (q := 104) (lv' := [some (.ref 7), some (.int (vx_i x1)), some (.int (vx_i 0)), some (.int (vx_i r6)), some (.int (vx_i 0)), some (.int (vx_i r12))]) (by decide +kernel) rfl ?_
          refine vx_iload (n := 4) (q := 106) (by decide +kernel) rfl ?_
          refine vx_if0_eq (off := 42) (q := 109) (t := 148) (by decide +kernel) (by decide) (fun _ => ?_) (fun c => absurd c (by decide))
          refine vx_aload_n (n := 0) (q := 149) (by decide +kernel) rfl ?_
          obtain ⟨b13, eb13, ob13, H⟩ := H
          refine vx_getR (b := b13) (idx := 36) (kd := 3) (s := 8) (fin := false) (q := 152) (by decide +kernel) (vx_Tk hT12 (by decide +kernel)) eb13 ?_
          refine vx_iload_n (n := 1) (q := 153) (by decide +kernel) rfl ?_
          refine vx_iload_n (n := 3) (q := 154) (by decide +kernel) rfl ?_
          refine vx_iload (n := 5) (q := 156) (by decide +kernel) rfl ?_
          refine vx_aload_n (n := 0) (q := 157) (by decide +kernel) rfl ?_
          refine vx_getR (b := 17) (idx := 18) (kd := 3) (s := 2) (fin := true) (q := 160) (by decide +kernel) (vx_Tk hT12 (by decide +kernel)) (vx_Tr hT12 (kd := 3) (by decide +kernel) (by decide +kernel) (by decide +kernel)) ?_
          refine vx_callV (i := .invokevirtual 174) (how := 3) (cm := 183) (np := 5) (q := 163) (args := [.ref b13, .int (vx_i x1), .int (vx_i r6), .int (vx_i r12), .ref 17]) (rest := []) (by decide +kernel) rfl rfl rfl (vx_w2 (w := 5) (ml := 5) rfl (by decide +kernel)) (vx_rcv (kd := 7) (vx_Tk hT12 ob13) (by decide +kernel)) H (fun h14 hs14 H => ?_)
          have hT14 := vx_Tsh hT12 hs14
          replace H := H hT14
          refine vx_iconst (n := 1) (q := 164) (by decide +kernel) ?_
          refine vx_retZ (q := 165) (by decide +kernel) (Or.inr rfl) ?_
          exact H
        · replace H := H.2 c11
          refine vx_iconst (n := 0) (q := 97) (by decide +kernel) ?_
          refine vx_retZ (q := 98) (by decide +kernel) (Or.inl rfl) ?_
          exact H
      · replace H := H.2 c8
        refine vx_aload_n (n := 0) (q := 68) (by decide +kernel) rfl ?_
        refine vx_aload_n (n := 0) (q := 69) (by decide +kernel) rfl ?_
        refine vx_callI (i := .invokevirtual 126) (how := 3) (cm := 163) (np := 1) (q := 72) (args := [.ref 7]) (rest := [.ref 7]) (by decide +kernel) rfl rfl rfl (vx_w2 (w := 1) (ml := 1) rfl (by decide +kernel)) (vx_rcv (kd := 3) (vx_Tk hT7 (by decide +kernel)) (by decide +kernel)) H (fun r15 h15 hr15 hs15 H => ?_)
        have hT15 := vx_Tsh hT7 hs15
        replace H := H hT15
        refine vx_callI (i := .invokevirtual 157) (how := 3) (cm := 166) (np := 2) (q := 75) (args := [.ref 7, .int (vx_i r15)]) (rest := []) (by decide +kernel) rfl rfl rfl (vx_w2 (w := 2) (ml := 2) rfl (by decide +kernel)) (vx_rcv (kd := 3) (vx_Tk hT15 (by decide +kernel)) (by decide +kernel)) H (fun r16 h16 hr16 hs16 H => ?_)
        have hT16 := vx_Tsh hT15 hs16
        replace H := H hT16
        obtain ⟨k17, H⟩ := H
        refine vx_retZ (q := 76) (by decide +kernel) k17 ?_
        exact H
    · replace H := H.2 c5
      refine vx_iconst (n := 0) (q := 33) (by decide +kernel) ?_
      refine vx_retZ (q := 34) (by decide +kernel) (Or.inl rfl) ?_
      exact H
  · replace H := H.2 c3
    refine vx_iconst (n := 1) (q := 17) (by decide +kernel) ?_
    refine vx_goto (off := 4) (q := 20) (t := 21) (by decide +kernel) ?_
    refine vx_istore_n (n := 2) (q := 22) (lv' := [some (.ref 7), some (.int (vx_i x1)), some (.int (vx_i 1)), none, none, none]) (by decide +kernel) rfl ?_
    refine vx_aload_n (n := 0) (q := 23) (by decide +kernel) rfl ?_
    refine vx_iconst (n := 0) (q := 24) (by decide +kernel) ?_
    refine vx_bipush (n := 17) (q := 26) (by decide +kernel) ?_
    refine vx_callI (i := .invokevirtual 192) (how := 3) (cm := 160) (np := 3) (q := 29) (args := [.ref 7, .int (vx_i 0), .int (vx_i 17)]) (rest := []) (by decide +kernel) rfl rfl rfl (vx_w2 (w := 3) (ml := 6) rfl (by decide +kernel)) (vx_rcv (kd := 3) (vx_Tk hT2 (by decide +kernel)) (by decide +kernel)) H (fun r18 h18 hr18 hs18 H => ?_)
    have hT18 := vx_Tsh hT2 hs18
    replace H := H hT18
    refine vx_if0_ne (off := 5) (q := 32) (t := 34) (by decide +kernel) hr18 (fun c19 => ?_) (fun c19 => ?_)
    · replace H := H.1 c19
      refine vx_aload_n (n := 0) (q := 35) (by decide +kernel) rfl ?_
      refine vx_callI (i := .invokevirtual 48) (how := 3) (cm := 162) (np := 1) (q := 38) (args := [.ref 7]) (rest := []) (by decide +kernel) rfl rfl rfl (vx_w2 (w := 1) (ml := 1) rfl (by decide +kernel)) (vx_rcv (kd := 3) (vx_Tk hT18 (by decide +kernel)) (by decide +kernel)) H (fun r20 h20 hr20 hs20 H => ?_)
      have hT20 := vx_Tsh hT18 hs20
      replace H := H hT20
      refine vx_istore_n (n := 3) (q := 39) (lv' := [some (.ref 7), some (.int (vx_i x1)), some (.int (vx_i 1)), some (.int (vx_i r20)), none, none]) (by decide +kernel) rfl ?_
      refine vx_iload_n (n := 2) (q := 40) (by decide +kernel) rfl ?_
      refine vx_if0_eq (off := 12) (q := 43) (t := 52) (by decide +kernel) (by decide) (fun c => absurd c (by decide)) (fun _ => ?_)
      refine vx_iload_n (n := 3) (q := 44) (by decide +kernel) rfl ?_
      refine vx_iconst (n := 5) (q := 45) (by decide +kernel) ?_
      refine vx_icmp_ne (off := 7) (q := 48) (t := 52) (by decide +kernel) hr20 (by decide) (fun c21 => ?_) (fun c21 => ?_)
      · replace H := H.1 c21
        refine vx_iconst (n := 0) (q := 53) (by decide +kernel) ?_
        refine vx_istore (n := 4) (q := 55) (lv' := [some (.ref 7), some (.int (vx_i x1)), some (.int (vx_i 1)), some (.int (vx_i r20)), some (.int (vx_i 0)), none]) (by decide +kernel) rfl ?_
        refine vx_iload (n := 4) (q := 57) (by decide +kernel) rfl ?_
        refine vx_if0_ne (off := 19) (q := 60) (t := 76) (by decide +kernel) (by decide) (fun c => absurd c (by decide)) (fun _ => ?_)
        refine vx_iload_n (n := 3) (q := 61) (by decide +kernel) rfl ?_
        refine vx_callI (i := .invokestatic 196) (how := 4) (cm := 169) (np := 1) (q := 64) (args := [.int (vx_i r20)]) (rest := []) (by decide +kernel) rfl rfl rfl (vx_w2 (w := 1) (ml := 1) rfl (by decide +kernel)) rfl H (fun r22 h22 hr22 hs22 H => ?_)
        have hT22 := vx_Tsh hT20 hs22
        replace H := H hT22
        refine vx_if0_ne (off := 12) (q := 67) (t := 76) (by decide +kernel) hr22 (fun c23 => ?_) (fun c23 => ?_)
        · replace H := H.1 c23
          refine vx_aload_n (n := 0) (q := 77) (by decide +kernel) rfl ?_
          refine vx_dupR (q := 78) (by decide +kernel) ?_
          refine vx_getI (idx := 108) (kd := 3) (s := 9) (fin := false) (q := 81) (by decide +kernel) (vx_Tk hT22 (by decide +kernel)) ?_
          refine vx_iconst (n := 1) (q := 82) (by decide +kernel) ?_
          refine vx_iadd (q := 83) (by decide +kernel) ?_
          refine vx_putI (idx := 108) (kd := 3) (s := 9) (fin := false) (q := 86) (by decide +kernel) (vx_Tk hT22 (by decide +kernel)) (fun h24 e24 => ?_)
          have hT24 := vx_TJ hT22 e24
          replace H := H h24 e24 hT24
          refine vx_aload_n (n := 0) (q := 87) (by decide +kernel) rfl ?_
          refine vx_iconst (n := 1) (q := 88) (by decide +kernel) ?_
          refine vx_bipush (n := 17) (q := 90) (by decide +kernel) ?_
          refine vx_callI (i := .invokevirtual 192) (how := 3) (cm := 160) (np := 3) (q := 93) (args := [.ref 7, .int (vx_i 1), .int (vx_i 17)]) (rest := []) (by decide +kernel) rfl rfl rfl (vx_w2 (w := 3) (ml := 6) rfl (by decide +kernel)) (vx_rcv (kd := 3) (vx_Tk hT24 (by decide +kernel)) (by decide +kernel)) H (fun r25 h25 hr25 hs25 H => ?_)
          have hT25 := vx_Tsh hT24 hs25
          replace H := H hT25
          refine vx_if0_ne (off := 5) (q := 96) (t := 98) (by decide +kernel) hr25 (fun c26 => ?_) (fun c26 => ?_)
          · replace H := H.1 c26
            refine vx_aload_n (n := 0) (q := 99) (by decide +kernel) rfl ?_
            refine vx_callI (i := .invokevirtual 48) (how := 3) (cm := 162) (np := 1) (q := 102) (args := [.ref 7]) (rest := []) (by decide +kernel) rfl rfl rfl (vx_w2 (w := 1) (ml := 1) rfl (by decide +kernel)) (vx_rcv (kd := 3) (vx_Tk hT25 (by decide +kernel)) (by decide +kernel)) H (fun r27 h27 hr27 hs27 H => ?_)
            have hT27 := vx_Tsh hT25 hs27
            replace H := H hT27
            refine vx_istore (n := 5) (q := 104) (lv' := [some (.ref 7), some (.int (vx_i x1)), some (.int (vx_i 1)), some (.int (vx_i r20)), some (.int (vx_i 0)), some (.int (vx_i r27))]) (by decide +kernel) rfl ?_
            refine vx_iload (n := 4) (q := 106) (by decide +kernel) rfl ?_
            refine vx_if0_eq (off := 42) (q := 109) (t := 148) (by decide +kernel) (by decide) (fun _ => ?_) (fun c => absurd c (by decide))
            refine vx_aload_n (n := 0) (q := 149) (by decide +kernel) rfl ?_
            obtain ⟨b28, eb28, ob28, H⟩ := H
            refine vx_getR (b := b28) (idx := 36) (kd := 3) (s := 8) (fin := false) (q := 152) (by decide +kernel) (vx_Tk hT27 (by decide +kernel)) eb28 ?_
            refine vx_iload_n (n := 1) (q := 153) (by decide +kernel) rfl ?_
            refine vx_iload_n (n := 3) (q := 154) (by decide +kernel) rfl ?_
            refine vx_iload (n := 5) (q := 156) (by decide +kernel) rfl ?_
            refine vx_aload_n (n := 0) (q := 157) (by decide +kernel) rfl ?_
            refine vx_getR (b := 17) (idx := 18) (kd := 3) (s := 2) (fin := true) (q := 160) (by decide +kernel) (vx_Tk hT27 (by decide +kernel)) (vx_Tr hT27 (kd := 3) (by decide +kernel) (by decide +kernel) (by decide +kernel)) ?_
            refine vx_callV (i := .invokevirtual 174) (how := 3) (cm := 183) (np := 5) (q := 163) (args := [.ref b28, .int (vx_i x1), .int (vx_i r20), .int (vx_i r27), .ref 17]) (rest := []) (by decide +kernel) rfl rfl rfl (vx_w2 (w := 5) (ml := 5) rfl (by decide +kernel)) (vx_rcv (kd := 7) (vx_Tk hT27 ob28) (by decide +kernel)) H (fun h29 hs29 H => ?_)
            have hT29 := vx_Tsh hT27 hs29
            replace H := H hT29
            refine vx_iconst (n := 1) (q := 164) (by decide +kernel) ?_
            refine vx_retZ (q := 165) (by decide +kernel) (Or.inr rfl) ?_
            exact H
          · replace H := H.2 c26
            refine vx_iconst (n := 0) (q := 97) (by decide +kernel) ?_
            refine vx_retZ (q := 98) (by decide +kernel) (Or.inl rfl) ?_
            exact H
        · replace H := H.2 c23
          refine vx_aload_n (n := 0) (q := 68) (by decide +kernel) rfl ?_
          refine vx_aload_n (n := 0) (q := 69) (by decide +kernel) rfl ?_
          refine vx_callI (i := .invokevirtual 126) (how := 3) (cm := 163) (np := 1) (q := 72) (args := [.ref 7]) (rest := [.ref 7]) (by decide +kernel) rfl rfl rfl (vx_w2 (w := 1) (ml := 1) rfl (by decide +kernel)) (vx_rcv (kd := 3) (vx_Tk hT22 (by decide +kernel)) (by decide +kernel)) H (fun r30 h30 hr30 hs30 H => ?_)
          have hT30 := vx_Tsh hT22 hs30
          replace H := H hT30
          refine vx_callI (i := .invokevirtual 157) (how := 3) (cm := 166) (np := 2) (q := 75) (args := [.ref 7, .int (vx_i r30)]) (rest := []) (by decide +kernel) rfl rfl rfl (vx_w2 (w := 2) (ml := 2) rfl (by decide +kernel)) (vx_rcv (kd := 3) (vx_Tk hT30 (by decide +kernel)) (by decide +kernel)) H (fun r31 h31 hr31 hs31 H => ?_)
          have hT31 := vx_Tsh hT30 hs31
          replace H := H hT31
          obtain ⟨k32, H⟩ := H
          refine vx_retZ (q := 76) (by decide +kernel) k32 ?_
          exact H
      · replace H := H.2 c21
        refine vx_iconst (n := 1) (q := 49) (by decide +kernel) ?_
        refine vx_goto (off := 4) (q := 52) (t := 53) (by decide +kernel) ?_
        refine vx_istore (n := 4) (q := 55) (lv' := [some (.ref 7), some (.int (vx_i x1)), some (.int (vx_i 1)), some (.int (vx_i r20)), some (.int (vx_i 1)), none]) (by decide +kernel) rfl ?_
        refine vx_iload (n := 4) (q := 57) (by decide +kernel) rfl ?_
        refine vx_if0_ne (off := 19) (q := 60) (t := 76) (by decide +kernel) (by decide) (fun _ => ?_) (fun c => absurd c (by decide))
        refine vx_aload_n (n := 0) (q := 77) (by decide +kernel) rfl ?_
        refine vx_dupR (q := 78) (by decide +kernel) ?_
        refine vx_getI (idx := 108) (kd := 3) (s := 9) (fin := false) (q := 81) (by decide +kernel) (vx_Tk hT20 (by decide +kernel)) ?_
        refine vx_iconst (n := 1) (q := 82) (by decide +kernel) ?_
        refine vx_iadd (q := 83) (by decide +kernel) ?_
        refine vx_putI (idx := 108) (kd := 3) (s := 9) (fin := false) (q := 86) (by decide +kernel) (vx_Tk hT20 (by decide +kernel)) (fun h33 e33 => ?_)
        have hT33 := vx_TJ hT20 e33
        replace H := H h33 e33 hT33
        refine vx_aload_n (n := 0) (q := 87) (by decide +kernel) rfl ?_
        refine vx_iconst (n := 1) (q := 88) (by decide +kernel) ?_
        refine vx_bipush (n := 17) (q := 90) (by decide +kernel) ?_
        refine vx_callI (i := .invokevirtual 192) (how := 3) (cm := 160) (np := 3) (q := 93) (args := [.ref 7, .int (vx_i 1), .int (vx_i 17)]) (rest := []) (by decide +kernel) rfl rfl rfl (vx_w2 (w := 3) (ml := 6) rfl (by decide +kernel)) (vx_rcv (kd := 3) (vx_Tk hT33 (by decide +kernel)) (by decide +kernel)) H (fun r34 h34 hr34 hs34 H => ?_)
        have hT34 := vx_Tsh hT33 hs34
        replace H := H hT34
        refine vx_if0_ne (off := 5) (q := 96) (t := 98) (by decide +kernel) hr34 (fun c35 => ?_) (fun c35 => ?_)
        · replace H := H.1 c35
          refine vx_aload_n (n := 0) (q := 99) (by decide +kernel) rfl ?_
          refine vx_callI (i := .invokevirtual 48) (how := 3) (cm := 162) (np := 1) (q := 102) (args := [.ref 7]) (rest := []) (by decide +kernel) rfl rfl rfl (vx_w2 (w := 1) (ml := 1) rfl (by decide +kernel)) (vx_rcv (kd := 3) (vx_Tk hT34 (by decide +kernel)) (by decide +kernel)) H (fun r36 h36 hr36 hs36 H => ?_)
          have hT36 := vx_Tsh hT34 hs36
          replace H := H hT36
          refine vx_istore (n := 5) (q := 104) (lv' := [some (.ref 7), some (.int (vx_i x1)), some (.int (vx_i 1)), some (.int (vx_i r20)), some (.int (vx_i 1)), some (.int (vx_i r36))]) (by decide +kernel) rfl ?_
          refine vx_iload (n := 4) (q := 106) (by decide +kernel) rfl ?_
          refine vx_if0_eq (off := 42) (q := 109) (t := 148) (by decide +kernel) (by decide) (fun c => absurd c (by decide)) (fun _ => ?_)
          refine vx_iload (n := 5) (q := 111) (by decide +kernel) rfl ?_
          refine vx_callI (i := .invokestatic 199) (how := 4) (cm := 170) (np := 1) (q := 114) (args := [.int (vx_i r36)]) (rest := []) (by decide +kernel) rfl rfl rfl (vx_w2 (w := 1) (ml := 1) rfl (by decide +kernel)) rfl H (fun r37 h37 hr37 hs37 H => ?_)
          have hT37 := vx_Tsh hT36 hs37
          replace H := H hT37
          refine vx_if0_ne (off := 12) (q := 117) (t := 126) (by decide +kernel) hr37 (fun c38 => ?_) (fun c38 => ?_)
          · replace H := H.1 c38
            refine vx_aload_n (n := 0) (q := 127) (by decide +kernel) rfl ?_
            refine vx_dupR (q := 128) (by decide +kernel) ?_
            refine vx_getI (idx := 108) (kd := 3) (s := 9) (fin := false) (q := 131) (by decide +kernel) (vx_Tk hT37 (by decide +kernel)) ?_
            refine vx_iconst (n := 1) (q := 132) (by decide +kernel) ?_
            refine vx_iadd (q := 133) (by decide +kernel) ?_
            refine vx_putI (idx := 108) (kd := 3) (s := 9) (fin := false) (q := 136) (by decide +kernel) (vx_Tk hT37 (by decide +kernel)) (fun h39 e39 => ?_)
            have hT39 := vx_TJ hT37 e39
            replace H := H h39 e39 hT39
            refine vx_aload_n (n := 0) (q := 137) (by decide +kernel) rfl ?_
            refine vx_iconst (n := 2) (q := 138) (by decide +kernel) ?_
            refine vx_bipush (n := 17) (q := 140) (by decide +kernel) ?_
            refine vx_callI (i := .invokevirtual 192) (how := 3) (cm := 160) (np := 3) (q := 143) (args := [.ref 7, .int (vx_i 2), .int (vx_i 17)]) (rest := []) (by decide +kernel) rfl rfl rfl (vx_w2 (w := 3) (ml := 6) rfl (by decide +kernel)) (vx_rcv (kd := 3) (vx_Tk hT39 (by decide +kernel)) (by decide +kernel)) H (fun r40 h40 hr40 hs40 H => ?_)
            have hT40 := vx_Tsh hT39 hs40
            replace H := H hT40
            refine vx_if0_ne (off := 5) (q := 146) (t := 148) (by decide +kernel) hr40 (fun c41 => ?_) (fun c41 => ?_)
            · replace H := H.1 c41
              refine vx_aload_n (n := 0) (q := 149) (by decide +kernel) rfl ?_
              obtain ⟨b42, eb42, ob42, H⟩ := H
              refine vx_getR (b := b42) (idx := 36) (kd := 3) (s := 8) (fin := false) (q := 152) (by decide +kernel) (vx_Tk hT40 (by decide +kernel)) eb42 ?_
              refine vx_iload_n (n := 1) (q := 153) (by decide +kernel) rfl ?_
              refine vx_iload_n (n := 3) (q := 154) (by decide +kernel) rfl ?_
              refine vx_iload (n := 5) (q := 156) (by decide +kernel) rfl ?_
              refine vx_aload_n (n := 0) (q := 157) (by decide +kernel) rfl ?_
              refine vx_getR (b := 17) (idx := 18) (kd := 3) (s := 2) (fin := true) (q := 160) (by decide +kernel) (vx_Tk hT40 (by decide +kernel)) (vx_Tr hT40 (kd := 3) (by decide +kernel) (by decide +kernel) (by decide +kernel)) ?_
              refine vx_callV (i := .invokevirtual 174) (how := 3) (cm := 183) (np := 5) (q := 163) (args := [.ref b42, .int (vx_i x1), .int (vx_i r20), .int (vx_i r36), .ref 17]) (rest := []) (by decide +kernel) rfl rfl rfl (vx_w2 (w := 5) (ml := 5) rfl (by decide +kernel)) (vx_rcv (kd := 7) (vx_Tk hT40 ob42) (by decide +kernel)) H (fun h43 hs43 H => ?_)
              have hT43 := vx_Tsh hT40 hs43
              replace H := H hT43
              refine vx_iconst (n := 1) (q := 164) (by decide +kernel) ?_
              refine vx_retZ (q := 165) (by decide +kernel) (Or.inr rfl) ?_
              exact H
            · replace H := H.2 c41
              refine vx_iconst (n := 0) (q := 147) (by decide +kernel) ?_
              refine vx_retZ (q := 148) (by decide +kernel) (Or.inl rfl) ?_
              exact H
          · replace H := H.2 c38
            refine vx_aload_n (n := 0) (q := 118) (by decide +kernel) rfl ?_
            refine vx_aload_n (n := 0) (q := 119) (by decide +kernel) rfl ?_
            refine vx_callI (i := .invokevirtual 126) (how := 3) (cm := 163) (np := 1) (q := 122) (args := [.ref 7]) (rest := [.ref 7]) (by decide +kernel) rfl rfl rfl (vx_w2 (w := 1) (ml := 1) rfl (by decide +kernel)) (vx_rcv (kd := 3) (vx_Tk hT37 (by decide +kernel)) (by decide +kernel)) H (fun r44 h44 hr44 hs44 H => ?_)
            have hT44 := vx_Tsh hT37 hs44
            replace H := H hT44
            refine vx_callI (i := .invokevirtual 157) (how := 3) (cm := 166) (np := 2) (q := 125) (args := [.ref 7, .int (vx_i r44)]) (rest := []) (by decide +kernel) rfl rfl rfl (vx_w2 (w := 2) (ml := 2) rfl (by decide +kernel)) (vx_rcv (kd := 3) (vx_Tk hT44 (by decide +kernel)) (by decide +kernel)) H (fun r45 h45 hr45 hs45 H => ?_)
            have hT45 := vx_Tsh hT44 hs45
            replace H := H hT45
            obtain ⟨k46, H⟩ := H
            refine vx_retZ (q := 126) (by decide +kernel) k46 ?_
            exact H
        · replace H := H.2 c35
          refine vx_iconst (n := 0) (q := 97) (by decide +kernel) ?_
          refine vx_retZ (q := 98) (by decide +kernel) (Or.inl rfl) ?_
          exact H
    · replace H := H.2 c19
      refine vx_iconst (n := 0) (q := 33) (by decide +kernel) ?_
      refine vx_retZ (q := 34) (by decide +kernel) (Or.inl rfl) ?_
      exact H
-- RuleHouse$Reader.readAtom(I)Z
theorem vg_157 {d : Nat} {h : ve_H} {P : Int → ve_H → Prop} {x1 : Int} (hT : vx_T 1 625 h) (H : vx_CI d 163 [.ref 7] h (fun r1 h1 => vx_T 1 625 h1 → vx_CI d 162 [.ref 7] h1 (fun r2 h2 => vx_T 1 625 h2 → ((r2 = 2 → (∃ b4, ve_R h2 7 6 = some b4 ∧ vx_o 1 625 5 b4 ∧ (0 ≤ (vx_J h2 7 9) ∧ (vx_J h2 7 9) < 601) ∧ vx_CI d 136 [.ref b4, .long (vx_l (vx_K h2 6 (vx_J h2 7 9).toNat))] h2 (fun r6 h6 => vx_T 1 625 h6 → (∀ h7, h7 = vx_sJ h6 7 10 r6 → vx_T 1 625 h7 → ((r6 ≠ ((-1)) → (∀ h9, h9 = vx_sJ h7 7 9 ((vx_J h7 7 9) + 1) → vx_T 1 625 h9 → vx_CI d 165 [.ref 7, .int (vx_i 40)] h9 (fun r10 h10 => vx_T 1 625 h10 → ((r10 ≠ 0 → vx_CV d 218 [.ref 17, .long (vx_l 0)] h10 (fun h12 => vx_T 1 625 h12 → vx_W (d + 1) 157 131 [some (.ref 7), some (.int (vx_i x1)), some (.int (vx_i r1)), some (.int (vx_i 0)), some (.int (vx_i 1)), some (.int (vx_i 0)), none] [] h12 (vx_RI P))) ∧ (r10 = 0 → P 0 h10))))) ∧ (r6 = ((-1)) → (((vx_J h7 7 7) = 0 → (∀ h14, h14 = vx_sJ h7 7 9 ((vx_J h7 7 9) + 1) → vx_T 1 625 h14 → vx_CI d 165 [.ref 7, .int (vx_i 40)] h14 (fun r15 h15 => vx_T 1 625 h15 → ((r15 ≠ 0 → vx_CV d 218 [.ref 17, .long (vx_l 0)] h15 (fun h17 => vx_T 1 625 h17 → vx_W (d + 1) 157 131 [some (.ref 7), some (.int (vx_i x1)), some (.int (vx_i r1)), some (.int (vx_i 0)), some (.int (vx_i 1)), some (.int (vx_i 0)), none] [] h17 (vx_RI P))) ∧ (r15 = 0 → P 0 h15))))) ∧ ((vx_J h7 7 7) ≠ 0 → (∃ b18, ve_R h7 7 6 = some b18 ∧ vx_o 1 625 5 b18 ∧ (0 ≤ (vx_J h7 7 9) ∧ (vx_J h7 7 9) < 601) ∧ vx_CI d 137 [.ref b18, .long (vx_l (vx_K h7 6 (vx_J h7 7 9).toNat))] h7 (fun r20 h20 => vx_T 1 625 h20 → (∀ h21, h21 = vx_sJ h20 7 10 r20 → vx_T 1 625 h21 → ((r20 ≠ ((-1)) → (∀ h23, h23 = vx_sJ h21 7 9 ((vx_J h21 7 9) + 1) → vx_T 1 625 h23 → vx_CI d 165 [.ref 7, .int (vx_i 40)] h23 (fun r24 h24 => vx_T 1 625 h24 → ((r24 ≠ 0 → vx_CV d 218 [.ref 17, .long (vx_l 0)] h24 (fun h26 => vx_T 1 625 h26 → vx_W (d + 1) 157 131 [some (.ref 7), some (.int (vx_i x1)), some (.int (vx_i r1)), some (.int (vx_i 0)), some (.int (vx_i 1)), some (.int (vx_i 0)), none] [] h26 (vx_RI P))) ∧ (r24 = 0 → P 0 h24))))) ∧ (r20 = ((-1)) → vx_CI d 166 [.ref 7, .int (vx_i r1)] h21 (fun r27 h27 => vx_T 1 625 h27 → (r27 = 0 ∨ r27 = 1) ∧ P r27 h27)))))))))))))) ∧ (r2 ≠ 2 → vx_CI d 166 [.ref 7, .int (vx_i r1)] h2 (fun r29 h29 => vx_T 1 625 h29 → (r29 = 0 ∨ r29 = 1) ∧ P r29 h29)))))) : vx_CI (d + 1) 157 [.ref 7, .int (vx_i x1)] h P := by
  refine vx_enter (ml := 7) (by decide +kernel) ?_
  show vx_W _ _ 0 [some (.ref 7), some (.int (vx_i x1)), none, none, none, none, none] [] h _
  refine vx_aload_n (n := 0) (q := 1) (by decide +kernel) rfl ?_
  refine vx_callI (i := .invokevirtual 126) (how := 3) (cm := 163) (np := 1) (q := 4) (args := [.ref 7]) (rest := []) (by decide +kernel) rfl rfl rfl (vx_w2 (w := 1) (ml := 1) rfl (by decide +kernel)) (vx_rcv (kd := 3) (vx_Tk hT (by decide +kernel)) (by decide +kernel)) H (fun r1 h1 hr1 hs1 H => ?_)
  have hT1 := vx_Tsh hT hs1
  replace H := H hT1
  refine vx_istore_n (n := 2) (q := 5) (lv' := [some (.ref 7), some (.int (vx_i x1)), some (.int (vx_i r1)), none, none, none, none]) (by decide +kernel) rfl ?_
  refine vx_aload_n (n := 0) (q := 6) (by decide +kernel) rfl ?_
  refine vx_callI (i := .invokevirtual 48) (how := 3) (cm := 162) (np := 1) (q := 9) (args := [.ref 7]) (rest := []) (by decide +kernel) rfl rfl rfl (vx_w2 (w := 1) (ml := 1) rfl (by decide +kernel)) (vx_rcv (kd := 3) (vx_Tk hT1 (by decide +kernel)) (by decide +kernel)) H (fun r2 h2 hr2 hs2 H => ?_)
  have hT2 := vx_Tsh hT1 hs2
  replace H := H hT2
  refine vx_iconst (n := 2) (q := 10) (by decide +kernel) ?_
  refine vx_icmp_eq (off := 9) (q := 13) (t := 19) (by decide +kernel) hr2 (by decide) (fun c3 => ?_) (fun c3 => ?_)
  · replace H := H.1 c3
    refine vx_aload_n (n := 0) (q := 20) (by decide +kernel) rfl ?_
    refine vx_aload_n (n := 0) (q := 21) (by decide +kernel) rfl ?_
    obtain ⟨b4, eb4, ob4, H⟩ := H
    refine vx_getR (b := b4) (idx := 100) (kd := 3) (s := 6) (fin := false) (q := 24) (by decide +kernel) (vx_Tk hT2 (by decide +kernel)) eb4 ?_
    refine vx_aload_n (n := 0) (q := 25) (by decide +kernel) rfl ?_
    refine vx_getR (b := 2) (idx := 32) (kd := 3) (s := 0) (fin := true) (q := 28) (by decide +kernel) (vx_Tk hT2 (by decide +kernel)) (vx_Tr hT2 (kd := 3) (by decide +kernel) (by decide +kernel) (by decide +kernel)) ?_
    refine vx_getR (b := 6) (idx := 202) (kd := 2) (s := 3) (fin := true) (q := 31) (by decide +kernel) (vx_Tk hT2 (by decide +kernel)) (vx_Tr hT2 (kd := 2) (by decide +kernel) (by decide +kernel) (by decide +kernel)) ?_
    refine vx_aload_n (n := 0) (q := 32) (by decide +kernel) rfl ?_
    refine vx_getI (idx := 108) (kd := 3) (s := 9) (fin := false) (q := 35) (by decide +kernel) (vx_Tk hT2 (by decide +kernel)) ?_
    obtain ⟨k5, H⟩ := H
    refine vx_laload (z := 601) (q := 36) (by decide +kernel) (vx_Tk hT2 (by decide +kernel)) (vx_Tz hT2 (by decide +kernel)) (vx_ix k5 (by decide)) ?_
    refine vx_callI (i := .invokevirtual 205) (how := 3) (cm := 136) (np := 2) (q := 39) (args := [.ref b4, .long (vx_l (vx_K h2 6 (vx_J h2 7 9).toNat))]) (rest := [.ref 7]) (by decide +kernel) rfl rfl rfl (vx_w2 (w := 3) (ml := 4) rfl (by decide +kernel)) (vx_rcv (kd := 5) (vx_Tk hT2 ob4) (by decide +kernel)) H (fun r6 h6 hr6 hs6 H => ?_)
    have hT6 := vx_Tsh hT2 hs6
    replace H := H hT6
    refine vx_putI (idx := 129) (kd := 3) (s := 10) (fin := false) (q := 42) (by decide +kernel) (vx_Tk hT6 (by decide +kernel)) (fun h7 e7 => ?_)
    have hT7 := vx_TJ hT6 e7
    replace H := H h7 e7 hT7
    refine vx_aload_n (n := 0) (q := 43) (by decide +kernel) rfl ?_
    refine vx_getI (idx := 129) (kd := 3) (s := 10) (fin := false) (q := 46) (by decide +kernel) (vx_Tk hT7 (by decide +kernel)) ?_
    rw [(vx_Jsm e7 hr6)]
    refine vx_iconst (n := (-1)) (q := 47) (by decide +kernel) ?_
    refine vx_icmp_ne (off := 47) (q := 50) (t := 94) (by decide +kernel) hr6 (by decide) (fun c8 => ?_) (fun c8 => ?_)
    · replace H := H.1 c8
      refine vx_aload_n (n := 0) (q := 95) (by decide +kernel) rfl ?_
      refine vx_dupR (q := 96) (by decide +kernel) ?_
      refine vx_getI (idx := 108) (kd := 3) (s := 9) (fin := false) (q := 99) (by decide +kernel) (vx_Tk hT7 (by decide +kernel)) ?_
      refine vx_iconst (n := 1) (q := 100) (by decide +kernel) ?_
      refine vx_iadd (q := 101) (by decide +kernel) ?_
      refine vx_putI (idx := 108) (kd := 3) (s := 9) (fin := false) (q := 104) (by decide +kernel) (vx_Tk hT7 (by decide +kernel)) (fun h9 e9 => ?_)
      have hT9 := vx_TJ hT7 e9
      replace H := H h9 e9 hT9
      refine vx_aload_n (n := 0) (q := 105) (by decide +kernel) rfl ?_
      refine vx_bipush (n := 40) (q := 107) (by decide +kernel) ?_
      refine vx_callI (i := .invokevirtual 81) (how := 3) (cm := 165) (np := 2) (q := 110) (args := [.ref 7, .int (vx_i 40)]) (rest := []) (by decide +kernel) rfl rfl rfl (vx_w2 (w := 2) (ml := 2) rfl (by decide +kernel)) (vx_rcv (kd := 3) (vx_Tk hT9 (by decide +kernel)) (by decide +kernel)) H (fun r10 h10 hr10 hs10 H => ?_)
      have hT10 := vx_Tsh hT9 hs10
      replace H := H hT10
      refine vx_if0_ne (off := 5) (q := 113) (t := 115) (by decide +kernel) hr10 (fun c11 => ?_) (fun c11 => ?_)
      · replace H := H.1 c11
        refine vx_aload_n (n := 0) (q := 116) (by decide +kernel) rfl ?_
        refine vx_getR (b := 17) (idx := 18) (kd := 3) (s := 2) (fin := true) (q := 119) (by decide +kernel) (vx_Tk hT10 (by decide +kernel)) (vx_Tr hT10 (kd := 3) (by decide +kernel) (by decide +kernel) (by decide +kernel)) ?_
        refine vx_lconst (n := 0) (m := 0) (q := 120) (by decide +kernel) ?_
        refine vx_callV (i := .invokestatic 186) (how := 4) (cm := 218) (np := 2) (q := 123) (args := [.ref 17, .long (vx_l 0)]) (rest := []) (by decide +kernel) rfl rfl rfl (vx_w2 (w := 3) (ml := 5) rfl (by decide +kernel)) rfl H (fun h12 hs12 H => ?_)
        have hT12 := vx_Tsh hT10 hs12
        replace H := H hT12
        refine vx_iconst (n := 0) (q := 124) (by decide +kernel) ?_
        refine vx_istore_n (n := 3) (q := 125) (lv' := [some (.ref 7), some (.int (vx_i x1)), some (.int (vx_i r1)), some (.int (vx_i 0)), none, none, none]) (by decide +kernel) rfl ?_
        refine vx_iconst (n := 1) (q := 126) (by decide +kernel) ?_
        refine vx_istore (n := 4) (q := 128) (lv' := [some (.ref 7), some (.int (vx_i x1)), some (.int (vx_i r1)), some (.int (vx_i 0)), some (.int (vx_i 1)), none, none]) (by decide +kernel) rfl ?_
        refine vx_iconst (n := 0) (q := 129) (by decide +kernel) ?_
        refine vx_istore (n := 5) (q := 131) (lv' := [some (.ref 7), some (.int (vx_i x1)), some (.int (vx_i r1)), some (.int (vx_i 0)), some (.int (vx_i 1)), some (.int (vx_i 0)), none]) (by decide +kernel) rfl ?_
        exact H
      · replace H := H.2 c11
        refine vx_iconst (n := 0) (q := 114) (by decide +kernel) ?_
        refine vx_retZ (q := 115) (by decide +kernel) (Or.inl rfl) ?_
        exact H
    · replace H := H.2 c8
      refine vx_aload_n (n := 0) (q := 51) (by decide +kernel) rfl ?_
      refine vx_getZ (idx := 104) (kd := 3) (s := 7) (fin := false) (q := 54) (by decide +kernel) (vx_Tk hT7 (by decide +kernel)) ?_
      refine vx_if0_eq (off := 40) (q := 57) (t := 94) (by decide +kernel) (vx_rI_J h7 7 7) (fun c13 => ?_) (fun c13 => ?_)
      · replace H := H.1 c13
        refine vx_aload_n (n := 0) (q := 95) (by decide +kernel) rfl ?_
        refine vx_dupR (q := 96) (by decide +kernel) ?_
        refine vx_getI (idx := 108) (kd := 3) (s := 9) (fin := false) (q := 99) (by decide +kernel) (vx_Tk hT7 (by decide +kernel)) ?_
        refine vx_iconst (n := 1) (q := 100) (by decide +kernel) ?_
        refine vx_iadd (q := 101) (by decide +kernel) ?_
        refine vx_putI (idx := 108) (kd := 3) (s := 9) (fin := false) (q := 104) (by decide +kernel) (vx_Tk hT7 (by decide +kernel)) (fun h14 e14 => ?_)
        have hT14 := vx_TJ hT7 e14
        replace H := H h14 e14 hT14
        refine vx_aload_n (n := 0) (q := 105) (by decide +kernel) rfl ?_
        refine vx_bipush (n := 40) (q := 107) (by decide +kernel) ?_
        refine vx_callI (i := .invokevirtual 81) (how := 3) (cm := 165) (np := 2) (q := 110) (args := [.ref 7, .int (vx_i 40)]) (rest := []) (by decide +kernel) rfl rfl rfl (vx_w2 (w := 2) (ml := 2) rfl (by decide +kernel)) (vx_rcv (kd := 3) (vx_Tk hT14 (by decide +kernel)) (by decide +kernel)) H (fun r15 h15 hr15 hs15 H => ?_)
        have hT15 := vx_Tsh hT14 hs15
        replace H := H hT15
        refine vx_if0_ne (off := 5) (q := 113) (t := 115) (by decide +kernel) hr15 (fun c16 => ?_) (fun c16 => ?_)
        · replace H := H.1 c16
          refine vx_aload_n (n := 0) (q := 116) (by decide +kernel) rfl ?_
          refine vx_getR (b := 17) (idx := 18) (kd := 3) (s := 2) (fin := true) (q := 119) (by decide +kernel) (vx_Tk hT15 (by decide +kernel)) (vx_Tr hT15 (kd := 3) (by decide +kernel) (by decide +kernel) (by decide +kernel)) ?_
          refine vx_lconst (n := 0) (m := 0) (q := 120) (by decide +kernel) ?_
          refine vx_callV (i := .invokestatic 186) (how := 4) (cm := 218) (np := 2) (q := 123) (args := [.ref 17, .long (vx_l 0)]) (rest := []) (by decide +kernel) rfl rfl rfl (vx_w2 (w := 3) (ml := 5) rfl (by decide +kernel)) rfl H (fun h17 hs17 H => ?_)
          have hT17 := vx_Tsh hT15 hs17
          replace H := H hT17
          refine vx_iconst (n := 0) (q := 124) (by decide +kernel) ?_
          refine vx_istore_n (n := 3) (q := 125) (lv' := [some (.ref 7), some (.int (vx_i x1)), some (.int (vx_i r1)), some (.int (vx_i 0)), none, none, none]) (by decide +kernel) rfl ?_
          refine vx_iconst (n := 1) (q := 126) (by decide +kernel) ?_
          refine vx_istore (n := 4) (q := 128) (lv' := [some (.ref 7), some (.int (vx_i x1)), some (.int (vx_i r1)), some (.int (vx_i 0)), some (.int (vx_i 1)), none, none]) (by decide +kernel) rfl ?_
          refine vx_iconst (n := 0) (q := 129) (by decide +kernel) ?_
          refine vx_istore (n := 5) (q := 131) (lv' := [some (.ref 7), some (.int (vx_i x1)), some (.int (vx_i r1)), some (.int (vx_i 0)), some (.int (vx_i 1)), some (.int (vx_i 0)), none]) (by decide +kernel) rfl ?_
          exact H
        · replace H := H.2 c16
          refine vx_iconst (n := 0) (q := 114) (by decide +kernel) ?_
          refine vx_retZ (q := 115) (by decide +kernel) (Or.inl rfl) ?_
          exact H
      · replace H := H.2 c13
        refine vx_aload_n (n := 0) (q := 58) (by decide +kernel) rfl ?_
        refine vx_aload_n (n := 0) (q := 59) (by decide +kernel) rfl ?_
        obtain ⟨b18, eb18, ob18, H⟩ := H
        refine vx_getR (b := b18) (idx := 100) (kd := 3) (s := 6) (fin := false) (q := 62) (by decide +kernel) (vx_Tk hT7 (by decide +kernel)) eb18 ?_
        refine vx_aload_n (n := 0) (q := 63) (by decide +kernel) rfl ?_
        refine vx_getR (b := 2) (idx := 32) (kd := 3) (s := 0) (fin := true) (q := 66) (by decide +kernel) (vx_Tk hT7 (by decide +kernel)) (vx_Tr hT7 (kd := 3) (by decide +kernel) (by decide +kernel) (by decide +kernel)) ?_
        refine vx_getR (b := 6) (idx := 202) (kd := 2) (s := 3) (fin := true) (q := 69) (by decide +kernel) (vx_Tk hT7 (by decide +kernel)) (vx_Tr hT7 (kd := 2) (by decide +kernel) (by decide +kernel) (by decide +kernel)) ?_
        refine vx_aload_n (n := 0) (q := 70) (by decide +kernel) rfl ?_
        refine vx_getI (idx := 108) (kd := 3) (s := 9) (fin := false) (q := 73) (by decide +kernel) (vx_Tk hT7 (by decide +kernel)) ?_
        obtain ⟨k19, H⟩ := H
        refine vx_laload (z := 601) (q := 74) (by decide +kernel) (vx_Tk hT7 (by decide +kernel)) (vx_Tz hT7 (by decide +kernel)) (vx_ix k19 (by decide)) ?_
        refine vx_callI (i := .invokevirtual 209) (how := 3) (cm := 137) (np := 2) (q := 77) (args := [.ref b18, .long (vx_l (vx_K h7 6 (vx_J h7 7 9).toNat))]) (rest := [.ref 7]) (by decide +kernel) rfl rfl rfl (vx_w2 (w := 3) (ml := 3) rfl (by decide +kernel)) (vx_rcv (kd := 5) (vx_Tk hT7 ob18) (by decide +kernel)) H (fun r20 h20 hr20 hs20 H => ?_)
        have hT20 := vx_Tsh hT7 hs20
        replace H := H hT20
        refine vx_putI (idx := 129) (kd := 3) (s := 10) (fin := false) (q := 80) (by decide +kernel) (vx_Tk hT20 (by decide +kernel)) (fun h21 e21 => ?_)
        have hT21 := vx_TJ hT20 e21
        replace H := H h21 e21 hT21
        refine vx_aload_n (n := 0) (q := 81) (by decide +kernel) rfl ?_
        refine vx_getI (idx := 129) (kd := 3) (s := 10) (fin := false) (q := 84) (by decide +kernel) (vx_Tk hT21 (by decide +kernel)) ?_
        rw [(vx_Jsm e21 hr20)]
        refine vx_iconst (n := (-1)) (q := 85) (by decide +kernel) ?_
        refine vx_icmp_ne (off := 9) (q := 88) (t := 94) (by decide +kernel) hr20 (by decide) (fun c22 => ?_) (fun c22 => ?_)
        · replace H := H.1 c22
          refine vx_aload_n (n := 0) (q := 95) (by decide +kernel) rfl ?_
          refine vx_dupR (q := 96) (by decide +kernel) ?_
          refine vx_getI (idx := 108) (kd := 3) (s := 9) (fin := false) (q := 99) (by decide +kernel) (vx_Tk hT21 (by decide +kernel)) ?_
          refine vx_iconst (n := 1) (q := 100) (by decide +kernel) ?_
          refine vx_iadd (q := 101) (by decide +kernel) ?_
          refine vx_putI (idx := 108) (kd := 3) (s := 9) (fin := false) (q := 104) (by decide +kernel) (vx_Tk hT21 (by decide +kernel)) (fun h23 e23 => ?_)
          have hT23 := vx_TJ hT21 e23
          replace H := H h23 e23 hT23
          refine vx_aload_n (n := 0) (q := 105) (by decide +kernel) rfl ?_
          refine vx_bipush (n := 40) (q := 107) (by decide +kernel) ?_
          refine vx_callI (i := .invokevirtual 81) (how := 3) (cm := 165) (np := 2) (q := 110) (args := [.ref 7, .int (vx_i 40)]) (rest := []) (by decide +kernel) rfl rfl rfl (vx_w2 (w := 2) (ml := 2) rfl (by decide +kernel)) (vx_rcv (kd := 3) (vx_Tk hT23 (by decide +kernel)) (by decide +kernel)) H (fun r24 h24 hr24 hs24 H => ?_)
          have hT24 := vx_Tsh hT23 hs24
          replace H := H hT24
          refine vx_if0_ne (off := 5) (q := 113) (t := 115) (by decide +kernel) hr24 (fun c25 => ?_) (fun c25 => ?_)
          · replace H := H.1 c25
            refine vx_aload_n (n := 0) (q := 116) (by decide +kernel) rfl ?_
            refine vx_getR (b := 17) (idx := 18) (kd := 3) (s := 2) (fin := true) (q := 119) (by decide +kernel) (vx_Tk hT24 (by decide +kernel)) (vx_Tr hT24 (kd := 3) (by decide +kernel) (by decide +kernel) (by decide +kernel)) ?_
            refine vx_lconst (n := 0) (m := 0) (q := 120) (by decide +kernel) ?_
            refine vx_callV (i := .invokestatic 186) (how := 4) (cm := 218) (np := 2) (q := 123) (args := [.ref 17, .long (vx_l 0)]) (rest := []) (by decide +kernel) rfl rfl rfl (vx_w2 (w := 3) (ml := 5) rfl (by decide +kernel)) rfl H (fun h26 hs26 H => ?_)
            have hT26 := vx_Tsh hT24 hs26
            replace H := H hT26
            refine vx_iconst (n := 0) (q := 124) (by decide +kernel) ?_
            refine vx_istore_n (n := 3) (q := 125) (lv' := [some (.ref 7), some (.int (vx_i x1)), some (.int (vx_i r1)), some (.int (vx_i 0)), none, none, none]) (by decide +kernel) rfl ?_
            refine vx_iconst (n := 1) (q := 126) (by decide +kernel) ?_
            refine vx_istore (n := 4) (q := 128) (lv' := [some (.ref 7), some (.int (vx_i x1)), some (.int (vx_i r1)), some (.int (vx_i 0)), some (.int (vx_i 1)), none, none]) (by decide +kernel) rfl ?_
            refine vx_iconst (n := 0) (q := 129) (by decide +kernel) ?_
            refine vx_istore (n := 5) (q := 131) (lv' := [some (.ref 7), some (.int (vx_i x1)), some (.int (vx_i r1)), some (.int (vx_i 0)), some (.int (vx_i 1)), some (.int (vx_i 0)), none]) (by decide +kernel) rfl ?_
            exact H
          · replace H := H.2 c25
            refine vx_iconst (n := 0) (q := 114) (by decide +kernel) ?_
            refine vx_retZ (q := 115) (by decide +kernel) (Or.inl rfl) ?_
            exact H
        · replace H := H.2 c22
          refine vx_aload_n (n := 0) (q := 89) (by decide +kernel) rfl ?_
          refine vx_iload_n (n := 2) (q := 90) (by decide +kernel) rfl ?_
          refine vx_callI (i := .invokevirtual 157) (how := 3) (cm := 166) (np := 2) (q := 93) (args := [.ref 7, .int (vx_i r1)]) (rest := []) (by decide +kernel) rfl rfl rfl (vx_w2 (w := 2) (ml := 2) rfl (by decide +kernel)) (vx_rcv (kd := 3) (vx_Tk hT21 (by decide +kernel)) (by decide +kernel)) H (fun r27 h27 hr27 hs27 H => ?_)
          have hT27 := vx_Tsh hT21 hs27
          replace H := H hT27
          obtain ⟨k28, H⟩ := H
          refine vx_retZ (q := 94) (by decide +kernel) k28 ?_
          exact H
  · replace H := H.2 c3
    refine vx_aload_n (n := 0) (q := 14) (by decide +kernel) rfl ?_
    refine vx_iload_n (n := 2) (q := 15) (by decide +kernel) rfl ?_
    refine vx_callI (i := .invokevirtual 157) (how := 3) (cm := 166) (np := 2) (q := 18) (args := [.ref 7, .int (vx_i r1)]) (rest := []) (by decide +kernel) rfl rfl rfl (vx_w2 (w := 2) (ml := 2) rfl (by decide +kernel)) (vx_rcv (kd := 3) (vx_Tk hT2 (by decide +kernel)) (by decide +kernel)) H (fun r29 h29 hr29 hs29 H => ?_)
    have hT29 := vx_Tsh hT2 hs29
    replace H := H hT29
    obtain ⟨k30, H⟩ := H
    refine vx_retZ (q := 19) (by decide +kernel) k30 ?_
    exact H
theorem vg_157_131 {d : Nat} {h : ve_H} {P : Int → ve_H → Prop} {v1 : Int} {v2 : Int} {v3 : Int} {v4 : Int} {v5 : Int} {v6 : Option Value} (hT : vx_T 1 625 h) (H : (vx_rI v5) ∧ ((4 ≤ v5 → (vx_rI v4) ∧ ((v4 = 0 → vx_CV d 158 [.ref 7, .int (vx_i v3), .int (vx_i v2)] h (fun h5 => vx_T 1 625 h5 → vx_CI d 165 [.ref 7, .int (vx_i 41)] h5 (fun r6 h6 => vx_T 1 625 h6 → (r6 = 0 ∨ r6 = 1) ∧ P r6 h6))) ∧ (v4 ≠ 0 → vx_CI d 163 [.ref 7] h (fun r8 h8 => vx_T 1 625 h8 → vx_CI d 166 [.ref 7, .int (vx_i r8)] h8 (fun r9 h9 => vx_T 1 625 h9 → (r9 = 0 ∨ r9 = 1) ∧ P r9 h9))))) ∧ (v5 < 4 → (vx_rI v4) ∧ ((v4 = 0 → vx_CV d 158 [.ref 7, .int (vx_i v3), .int (vx_i v2)] h (fun h13 => vx_T 1 625 h13 → vx_CI d 165 [.ref 7, .int (vx_i 41)] h13 (fun r14 h14 => vx_T 1 625 h14 → (r14 = 0 ∨ r14 = 1) ∧ P r14 h14))) ∧ (v4 ≠ 0 → (vx_rI v1) ∧ ((v1 ≠ 16 → vx_CI d 160 [.ref 7, .int (vx_i v5), .int (vx_i v1)] h (fun r18 h18 => vx_T 1 625 h18 → ((r18 = 0 → P 0 h18) ∧ (r18 ≠ 0 → vx_CI d 164 [.ref 7, .int (vx_i 44)] h18 (fun r20 h20 => vx_T 1 625 h20 → vx_W (d + 1) 157 131 [some (.ref 7), some (.int (vx_i v1)), some (.int (vx_i v2)), some (.int (vx_i (v3 + 1))), some (.int (vx_i r20)), some (.int (vx_i (v5 + 1))), some (.int (vx_i 0))] [] h20 (vx_RI P)))))) ∧ (v1 = 16 → vx_CI d 162 [.ref 7] h (fun r21 h21 => vx_T 1 625 h21 → vx_CI d 168 [.int (vx_i r21)] h21 (fun r22 h22 => vx_T 1 625 h22 → ((r22 = 0 → vx_CI d 160 [.ref 7, .int (vx_i v5), .int (vx_i v1)] h22 (fun r24 h24 => vx_T 1 625 h24 → ((r24 = 0 → P 0 h24) ∧ (r24 ≠ 0 → vx_CI d 164 [.ref 7, .int (vx_i 44)] h24 (fun r26 h26 => vx_T 1 625 h26 → vx_W (d + 1) 157 131 [some (.ref 7), some (.int (vx_i v1)), some (.int (vx_i v2)), some (.int (vx_i (v3 + 1))), some (.int (vx_i r26)), some (.int (vx_i (v5 + 1))), some (.int (vx_i 0))] [] h26 (vx_RI P)))))) ∧ (r22 ≠ 0 → vx_CI d 159 [.ref 7, .int (vx_i v5)] h22 (fun r27 h27 => vx_T 1 625 h27 → ((r27 = 0 → P 0 h27) ∧ (r27 ≠ 0 → vx_CI d 160 [.ref 7, .int (vx_i v5), .int (vx_i v1)] h27 (fun r29 h29 => vx_T 1 625 h29 → ((r29 = 0 → P 0 h29) ∧ (r29 ≠ 0 → vx_CI d 165 [.ref 7, .int (vx_i 41)] h29 (fun r31 h31 => vx_T 1 625 h31 → ((r31 ≠ 0 → vx_CI d 164 [.ref 7, .int (vx_i 44)] h31 (fun r33 h33 => vx_T 1 625 h33 → vx_W (d + 1) 157 131 [some (.ref 7), some (.int (vx_i v1)), some (.int (vx_i v2)), some (.int (vx_i (v3 + 1))), some (.int (vx_i r33)), some (.int (vx_i (v5 + 1))), some (.int (vx_i 1))] [] h33 (vx_RI P))) ∧ (r31 = 0 → P 0 h31)))))))))))))))))))) : vx_W (d + 1) 157 131 [some (.ref 7), some (.int (vx_i v1)), some (.int (vx_i v2)), some (.int (vx_i v3)), some (.int (vx_i v4)), some (.int (vx_i v5)), v6] [] h (vx_RI P) := by
  refine vx_iload (n := 5) (q := 133) (by decide +kernel) rfl ?_
  refine vx_iconst (n := 4) (q := 134) (by decide +kernel) ?_
  obtain ⟨k1, H⟩ := H
  refine vx_icmp_ge (off := 88) (q := 137) (t := 222) (by decide +kernel) k1 (by decide) (fun c2 => ?_) (fun c2 => ?_)
  · replace H := H.1 c2
    refine vx_iload (n := 4) (q := 224) (by decide +kernel) rfl ?_
    obtain ⟨k3, H⟩ := H
    refine vx_if0_eq (off := 12) (q := 227) (t := 236) (by decide +kernel) k3 (fun c4 => ?_) (fun c4 => ?_)
    · replace H := H.1 c4
      refine vx_aload_n (n := 0) (q := 237) (by decide +kernel) rfl ?_
      refine vx_iload_n (n := 3) (q := 238) (by decide +kernel) rfl ?_
      refine vx_iload_n (n := 2) (q := 239) (by decide +kernel) rfl ?_
      refine vx_callV (i := .invokevirtual 218) (how := 3) (cm := 158) (np := 3) (q := 242) (args := [.ref 7, .int (vx_i v3), .int (vx_i v2)]) (rest := []) (by decide +kernel) rfl rfl rfl (vx_w2 (w := 3) (ml := 3) rfl (by decide +kernel)) (vx_rcv (kd := 3) (vx_Tk hT (by decide +kernel)) (by decide +kernel)) H (fun h5 hs5 H => ?_)
      have hT5 := vx_Tsh hT hs5
      replace H := H hT5
      refine vx_aload_n (n := 0) (q := 243) (by decide +kernel) rfl ?_
      refine vx_bipush (n := 41) (q := 245) (by decide +kernel) ?_
      refine vx_callI (i := .invokevirtual 81) (how := 3) (cm := 165) (np := 2) (q := 248) (args := [.ref 7, .int (vx_i 41)]) (rest := []) (by decide +kernel) rfl rfl rfl (vx_w2 (w := 2) (ml := 2) rfl (by decide +kernel)) (vx_rcv (kd := 3) (vx_Tk hT5 (by decide +kernel)) (by decide +kernel)) H (fun r6 h6 hr6 hs6 H => ?_)
      have hT6 := vx_Tsh hT5 hs6
      replace H := H hT6
      obtain ⟨k7, H⟩ := H
      refine vx_retZ (q := 249) (by decide +kernel) k7 ?_
      exact H
    · replace H := H.2 c4
      refine vx_aload_n (n := 0) (q := 228) (by decide +kernel) rfl ?_
      refine vx_aload_n (n := 0) (q := 229) (by decide +kernel) rfl ?_
      refine vx_callI (i := .invokevirtual 126) (how := 3) (cm := 163) (np := 1) (q := 232) (args := [.ref 7]) (rest := [.ref 7]) (by decide +kernel) rfl rfl rfl (vx_w2 (w := 1) (ml := 1) rfl (by decide +kernel)) (vx_rcv (kd := 3) (vx_Tk hT (by decide +kernel)) (by decide +kernel)) H (fun r8 h8 hr8 hs8 H => ?_)
      have hT8 := vx_Tsh hT hs8
      replace H := H hT8
      refine vx_callI (i := .invokevirtual 157) (how := 3) (cm := 166) (np := 2) (q := 235) (args := [.ref 7, .int (vx_i r8)]) (rest := []) (by decide +kernel) rfl rfl rfl (vx_w2 (w := 2) (ml := 2) rfl (by decide +kernel)) (vx_rcv (kd := 3) (vx_Tk hT8 (by decide +kernel)) (by decide +kernel)) H (fun r9 h9 hr9 hs9 H => ?_)
      have hT9 := vx_Tsh hT8 hs9
      replace H := H hT9
      obtain ⟨k10, H⟩ := H
      refine vx_retZ (q := 236) (by decide +kernel) k10 ?_
      exact H
  · replace H := H.2 c2
    refine vx_iload (n := 4) (q := 139) (by decide +kernel) rfl ?_
    obtain ⟨k11, H⟩ := H
    refine vx_if0_eq (off := 83) (q := 142) (t := 222) (by decide +kernel) k11 (fun c12 => ?_) (fun c12 => ?_)
    · replace H := H.1 c12
      refine vx_iload (n := 4) (q := 224) (by decide +kernel) rfl ?_
      refine vx_if0_eq (off := 12) (q := 227) (t := 236) (by decide +kernel) k11 (fun _ => ?_) (fun c => absurd c (by omega))
      refine vx_aload_n (n := 0) (q := 237) (by decide +kernel) rfl ?_
      refine vx_iload_n (n := 3) (q := 238) (by decide +kernel) rfl ?_
      refine vx_iload_n (n := 2) (q := 239) (by decide +kernel) rfl ?_
      refine vx_callV (i := .invokevirtual 218) (how := 3) (cm := 158) (np := 3) (q := 242) (args := [.ref 7, .int (vx_i v3), .int (vx_i v2)]) (rest := []) (by decide +kernel) rfl rfl rfl (vx_w2 (w := 3) (ml := 3) rfl (by decide +kernel)) (vx_rcv (kd := 3) (vx_Tk hT (by decide +kernel)) (by decide +kernel)) H (fun h13 hs13 H => ?_)
      have hT13 := vx_Tsh hT hs13
      replace H := H hT13
      refine vx_aload_n (n := 0) (q := 243) (by decide +kernel) rfl ?_
      refine vx_bipush (n := 41) (q := 245) (by decide +kernel) ?_
      refine vx_callI (i := .invokevirtual 81) (how := 3) (cm := 165) (np := 2) (q := 248) (args := [.ref 7, .int (vx_i 41)]) (rest := []) (by decide +kernel) rfl rfl rfl (vx_w2 (w := 2) (ml := 2) rfl (by decide +kernel)) (vx_rcv (kd := 3) (vx_Tk hT13 (by decide +kernel)) (by decide +kernel)) H (fun r14 h14 hr14 hs14 H => ?_)
      have hT14 := vx_Tsh hT13 hs14
      replace H := H hT14
      obtain ⟨k15, H⟩ := H
      refine vx_retZ (q := 249) (by decide +kernel) k15 ?_
      exact H
    · replace H := H.2 c12
      refine vx_iload_n (n := 1) (q := 143) (by decide +kernel) rfl ?_
      refine vx_bipush (n := 16) (q := 145) (by decide +kernel) ?_
      obtain ⟨k16, H⟩ := H
      refine vx_icmp_ne (off := 17) (q := 148) (t := 162) (by decide +kernel) k16 (by decide) (fun c17 => ?_) (fun c17 => ?_)
      · replace H := H.1 c17
        refine vx_iconst (n := 0) (q := 163) (by decide +kernel) ?_
        refine vx_istore (n := 6) (q := 165) (lv' := [some (.ref 7), some (.int (vx_i v1)), some (.int (vx_i v2)), some (.int (vx_i v3)), some (.int (vx_i v4)), some (.int (vx_i v5)), some (.int (vx_i 0))]) (by decide +kernel) rfl ?_
        refine vx_iload (n := 6) (q := 167) (by decide +kernel) rfl ?_
        refine vx_if0_eq (off := 12) (q := 170) (t := 179) (by decide +kernel) (by decide) (fun _ => ?_) (fun c => absurd c (by decide))
        refine vx_aload_n (n := 0) (q := 180) (by decide +kernel) rfl ?_
        refine vx_iload (n := 5) (q := 182) (by decide +kernel) rfl ?_
        refine vx_iload_n (n := 1) (q := 183) (by decide +kernel) rfl ?_
        refine vx_callI (i := .invokevirtual 192) (how := 3) (cm := 160) (np := 3) (q := 186) (args := [.ref 7, .int (vx_i v5), .int (vx_i v1)]) (rest := []) (by decide +kernel) rfl rfl rfl (vx_w2 (w := 3) (ml := 6) rfl (by decide +kernel)) (vx_rcv (kd := 3) (vx_Tk hT (by decide +kernel)) (by decide +kernel)) H (fun r18 h18 hr18 hs18 H => ?_)
        have hT18 := vx_Tsh hT hs18
        replace H := H hT18
        refine vx_if0_eq (off := 17) (q := 189) (t := 203) (by decide +kernel) hr18 (fun c19 => ?_) (fun c19 => ?_)
        · replace H := H.1 c19
          refine vx_iconst (n := 0) (q := 204) (by decide +kernel) ?_
          refine vx_retZ (q := 205) (by decide +kernel) (Or.inl rfl) ?_
          exact H
        · replace H := H.2 c19
          refine vx_iload (n := 6) (q := 191) (by decide +kernel) rfl ?_
          refine vx_if0_eq (off := 14) (q := 194) (t := 205) (by decide +kernel) (by decide) (fun _ => ?_) (fun c => absurd c (by decide))
          refine vx_iinc (n := 3) (m := 1) (x := v3) (q := 208) (lv' := [some (.ref 7), some (.int (vx_i v1)), some (.int (vx_i v2)), some (.int (vx_i (v3 + 1))), some (.int (vx_i v4)), some (.int (vx_i v5)), some (.int (vx_i 0))]) (by decide +kernel) rfl rfl ?_
          refine vx_aload_n (n := 0) (q := 209) (by decide +kernel) rfl ?_
          refine vx_bipush (n := 44) (q := 211) (by decide +kernel) ?_
          refine vx_callI (i := .invokevirtual 144) (how := 3) (cm := 164) (np := 2) (q := 214) (args := [.ref 7, .int (vx_i 44)]) (rest := []) (by decide +kernel) rfl rfl rfl (vx_w2 (w := 2) (ml := 2) rfl (by decide +kernel)) (vx_rcv (kd := 3) (vx_Tk hT18 (by decide +kernel)) (by decide +kernel)) H (fun r20 h20 hr20 hs20 H => ?_)
          have hT20 := vx_Tsh hT18 hs20
          replace H := H hT20
          refine vx_istore (n := 4) (q := 216) (lv' := [some (.ref 7), some (.int (vx_i v1)), some (.int (vx_i v2)), some (.int (vx_i (v3 + 1))), some (.int (vx_i r20)), some (.int (vx_i v5)), some (.int (vx_i 0))]) (by decide +kernel) rfl ?_
          refine vx_iinc (n := 5) (m := 1) (x := v5) (q := 219) (lv' := [some (.ref 7), some (.int (vx_i v1)), some (.int (vx_i v2)), some (.int (vx_i (v3 + 1))), some (.int (vx_i r20)), some (.int (vx_i (v5 + 1))), some (.int (vx_i 0))]) (by decide +kernel) rfl rfl ?_
          refine vx_goto (off := (-88)) (q := 222) (t := 131) (by decide +kernel) ?_
          exact H
      · replace H := H.2 c17
        refine vx_aload_n (n := 0) (q := 149) (by decide +kernel) rfl ?_
        refine vx_callI (i := .invokevirtual 48) (how := 3) (cm := 162) (np := 1) (q := 152) (args := [.ref 7]) (rest := []) (by decide +kernel) rfl rfl rfl (vx_w2 (w := 1) (ml := 1) rfl (by decide +kernel)) (vx_rcv (kd := 3) (vx_Tk hT (by decide +kernel)) (by decide +kernel)) H (fun r21 h21 hr21 hs21 H => ?_)
        have hT21 := vx_Tsh hT hs21
        replace H := H hT21
        refine vx_callI (i := .invokestatic 212) (how := 4) (cm := 168) (np := 1) (q := 155) (args := [.int (vx_i r21)]) (rest := []) (by decide +kernel) rfl rfl rfl (vx_w2 (w := 1) (ml := 1) rfl (by decide +kernel)) rfl H (fun r22 h22 hr22 hs22 H => ?_)
        have hT22 := vx_Tsh hT21 hs22
        replace H := H hT22
        refine vx_if0_eq (off := 7) (q := 158) (t := 162) (by decide +kernel) hr22 (fun c23 => ?_) (fun c23 => ?_)
        · replace H := H.1 c23
          refine vx_iconst (n := 0) (q := 163) (by decide +kernel) ?_
          refine vx_istore (n := 6) (q := 165) (lv' := [some (.ref 7), some (.int (vx_i v1)), some (.int (vx_i v2)), some (.int (vx_i v3)), some (.int (vx_i v4)), some (.int (vx_i v5)), some (.int (vx_i 0))]) (by decide +kernel) rfl ?_
          refine vx_iload (n := 6) (q := 167) (by decide +kernel) rfl ?_
          refine vx_if0_eq (off := 12) (q := 170) (t := 179) (by decide +kernel) (by decide) (fun _ => ?_) (fun c => absurd c (by decide))
          refine vx_aload_n (n := 0) (q := 180) (by decide +kernel) rfl ?_
          refine vx_iload (n := 5) (q := 182) (by decide +kernel) rfl ?_
          refine vx_iload_n (n := 1) (q := 183) (by decide +kernel) rfl ?_
          refine vx_callI (i := .invokevirtual 192) (how := 3) (cm := 160) (np := 3) (q := 186) (args := [.ref 7, .int (vx_i v5), .int (vx_i v1)]) (rest := []) (by decide +kernel) rfl rfl rfl (vx_w2 (w := 3) (ml := 6) rfl (by decide +kernel)) (vx_rcv (kd := 3) (vx_Tk hT22 (by decide +kernel)) (by decide +kernel)) H (fun r24 h24 hr24 hs24 H => ?_)
          have hT24 := vx_Tsh hT22 hs24
          replace H := H hT24
          refine vx_if0_eq (off := 17) (q := 189) (t := 203) (by decide +kernel) hr24 (fun c25 => ?_) (fun c25 => ?_)
          · replace H := H.1 c25
            refine vx_iconst (n := 0) (q := 204) (by decide +kernel) ?_
            refine vx_retZ (q := 205) (by decide +kernel) (Or.inl rfl) ?_
            exact H
          · replace H := H.2 c25
            refine vx_iload (n := 6) (q := 191) (by decide +kernel) rfl ?_
            refine vx_if0_eq (off := 14) (q := 194) (t := 205) (by decide +kernel) (by decide) (fun _ => ?_) (fun c => absurd c (by decide))
            refine vx_iinc (n := 3) (m := 1) (x := v3) (q := 208) (lv' := [some (.ref 7), some (.int (vx_i v1)), some (.int (vx_i v2)), some (.int (vx_i (v3 + 1))), some (.int (vx_i v4)), some (.int (vx_i v5)), some (.int (vx_i 0))]) (by decide +kernel) rfl rfl ?_
            refine vx_aload_n (n := 0) (q := 209) (by decide +kernel) rfl ?_
            refine vx_bipush (n := 44) (q := 211) (by decide +kernel) ?_
            refine vx_callI (i := .invokevirtual 144) (how := 3) (cm := 164) (np := 2) (q := 214) (args := [.ref 7, .int (vx_i 44)]) (rest := []) (by decide +kernel) rfl rfl rfl (vx_w2 (w := 2) (ml := 2) rfl (by decide +kernel)) (vx_rcv (kd := 3) (vx_Tk hT24 (by decide +kernel)) (by decide +kernel)) H (fun r26 h26 hr26 hs26 H => ?_)
            have hT26 := vx_Tsh hT24 hs26
            replace H := H hT26
            refine vx_istore (n := 4) (q := 216) (lv' := [some (.ref 7), some (.int (vx_i v1)), some (.int (vx_i v2)), some (.int (vx_i (v3 + 1))), some (.int (vx_i r26)), some (.int (vx_i v5)), some (.int (vx_i 0))]) (by decide +kernel) rfl ?_
            refine vx_iinc (n := 5) (m := 1) (x := v5) (q := 219) (lv' := [some (.ref 7), some (.int (vx_i v1)), some (.int (vx_i v2)), some (.int (vx_i (v3 + 1))), some (.int (vx_i r26)), some (.int (vx_i (v5 + 1))), some (.int (vx_i 0))]) (by decide +kernel) rfl rfl ?_
            refine vx_goto (off := (-88)) (q := 222) (t := 131) (by decide +kernel) ?_
            exact H
        · replace H := H.2 c23
          refine vx_iconst (n := 1) (q := 159) (by decide +kernel) ?_
          refine vx_goto (off := 4) (q := 162) (t := 163) (by decide +kernel) ?_
          refine vx_istore (n := 6) (q := 165) (lv' := [some (.ref 7), some (.int (vx_i v1)), some (.int (vx_i v2)), some (.int (vx_i v3)), some (.int (vx_i v4)), some (.int (vx_i v5)), some (.int (vx_i 1))]) (by decide +kernel) rfl ?_
          refine vx_iload (n := 6) (q := 167) (by decide +kernel) rfl ?_
          refine vx_if0_eq (off := 12) (q := 170) (t := 179) (by decide +kernel) (by decide) (fun c => absurd c (by decide)) (fun _ => ?_)
          refine vx_aload_n (n := 0) (q := 171) (by decide +kernel) rfl ?_
          refine vx_iload (n := 5) (q := 173) (by decide +kernel) rfl ?_
          refine vx_callI (i := .invokevirtual 215) (how := 3) (cm := 159) (np := 2) (q := 176) (args := [.ref 7, .int (vx_i v5)]) (rest := []) (by decide +kernel) rfl rfl rfl (vx_w2 (w := 2) (ml := 2) rfl (by decide +kernel)) (vx_rcv (kd := 3) (vx_Tk hT22 (by decide +kernel)) (by decide +kernel)) H (fun r27 h27 hr27 hs27 H => ?_)
          have hT27 := vx_Tsh hT22 hs27
          replace H := H hT27
          refine vx_if0_eq (off := 27) (q := 179) (t := 203) (by decide +kernel) hr27 (fun c28 => ?_) (fun c28 => ?_)
          · replace H := H.1 c28
            refine vx_iconst (n := 0) (q := 204) (by decide +kernel) ?_
            refine vx_retZ (q := 205) (by decide +kernel) (Or.inl rfl) ?_
            exact H
          · replace H := H.2 c28
            refine vx_aload_n (n := 0) (q := 180) (by decide +kernel) rfl ?_
            refine vx_iload (n := 5) (q := 182) (by decide +kernel) rfl ?_
            refine vx_iload_n (n := 1) (q := 183) (by decide +kernel) rfl ?_
            refine vx_callI (i := .invokevirtual 192) (how := 3) (cm := 160) (np := 3) (q := 186) (args := [.ref 7, .int (vx_i v5), .int (vx_i v1)]) (rest := []) (by decide +kernel) rfl rfl rfl (vx_w2 (w := 3) (ml := 6) rfl (by decide +kernel)) (vx_rcv (kd := 3) (vx_Tk hT27 (by decide +kernel)) (by decide +kernel)) H (fun r29 h29 hr29 hs29 H => ?_)
            have hT29 := vx_Tsh hT27 hs29
            replace H := H hT29
            refine vx_if0_eq (off := 17) (q := 189) (t := 203) (by decide +kernel) hr29 (fun c30 => ?_) (fun c30 => ?_)
            · replace H := H.1 c30
              refine vx_iconst (n := 0) (q := 204) (by decide +kernel) ?_
              refine vx_retZ (q := 205) (by decide +kernel) (Or.inl rfl) ?_
              exact H
            · replace H := H.2 c30
              refine vx_iload (n := 6) (q := 191) (by decide +kernel) rfl ?_
              refine vx_if0_eq (off := 14) (q := 194) (t := 205) (by decide +kernel) (by decide) (fun c => absurd c (by decide)) (fun _ => ?_)
              refine vx_aload_n (n := 0) (q := 195) (by decide +kernel) rfl ?_
              refine vx_bipush (n := 41) (q := 197) (by decide +kernel) ?_
              refine vx_callI (i := .invokevirtual 81) (how := 3) (cm := 165) (np := 2) (q := 200) (args := [.ref 7, .int (vx_i 41)]) (rest := []) (by decide +kernel) rfl rfl rfl (vx_w2 (w := 2) (ml := 2) rfl (by decide +kernel)) (vx_rcv (kd := 3) (vx_Tk hT29 (by decide +kernel)) (by decide +kernel)) H (fun r31 h31 hr31 hs31 H => ?_)
              have hT31 := vx_Tsh hT29 hs31
              replace H := H hT31
              refine vx_if0_ne (off := 5) (q := 203) (t := 205) (by decide +kernel) hr31 (fun c32 => ?_) (fun c32 => ?_)
              · replace H := H.1 c32
                refine vx_iinc (n := 3) (m := 1) (x := v3) (q := 208) (lv' := [some (.ref 7), some (.int (vx_i v1)), some (.int (vx_i v2)), some (.int (vx_i (v3 + 1))), some (.int (vx_i v4)), some (.int (vx_i v5)), some (.int (vx_i 1))]) (by decide +kernel) rfl rfl ?_
                refine vx_aload_n (n := 0) (q := 209) (by decide +kernel) rfl ?_
                refine vx_bipush (n := 44) (q := 211) (by decide +kernel) ?_
                refine vx_callI (i := .invokevirtual 144) (how := 3) (cm := 164) (np := 2) (q := 214) (args := [.ref 7, .int (vx_i 44)]) (rest := []) (by decide +kernel) rfl rfl rfl (vx_w2 (w := 2) (ml := 2) rfl (by decide +kernel)) (vx_rcv (kd := 3) (vx_Tk hT31 (by decide +kernel)) (by decide +kernel)) H (fun r33 h33 hr33 hs33 H => ?_)
                have hT33 := vx_Tsh hT31 hs33
                replace H := H hT33
                refine vx_istore (n := 4) (q := 216) (lv' := [some (.ref 7), some (.int (vx_i v1)), some (.int (vx_i v2)), some (.int (vx_i (v3 + 1))), some (.int (vx_i r33)), some (.int (vx_i v5)), some (.int (vx_i 1))]) (by decide +kernel) rfl ?_
                refine vx_iinc (n := 5) (m := 1) (x := v5) (q := 219) (lv' := [some (.ref 7), some (.int (vx_i v1)), some (.int (vx_i v2)), some (.int (vx_i (v3 + 1))), some (.int (vx_i r33)), some (.int (vx_i (v5 + 1))), some (.int (vx_i 1))]) (by decide +kernel) rfl rfl ?_
                refine vx_goto (off := (-88)) (q := 222) (t := 131) (by decide +kernel) ?_
                exact H
              · replace H := H.2 c32
                refine vx_iconst (n := 0) (q := 204) (by decide +kernel) ?_
                refine vx_retZ (q := 205) (by decide +kernel) (Or.inl rfl) ?_
                exact H
-- RuleHouse$Reader.checkArguments(II)V
theorem vg_158 {d : Nat} {h : ve_H} {P : ve_H → Prop} {x1 : Int} {x2 : Int} (hT : vx_T 1 625 h) (H : (((vx_J h 7 10) ≠ ((-1)) → (∃ b2, ve_R h 7 6 = some b2 ∧ vx_o 1 625 5 b2 ∧ (0 ≤ (vx_J h 7 10) ∧ (vx_J h 7 10) < 16) ∧ (((vx_J h (vx_r b2 1) (vx_J h 7 10).toNat) ≠ 0 → (0 ≤ (vx_J h 7 10) ∧ (vx_J h 7 10) < 16) ∧ (vx_rI x1) ∧ (((vx_J h (vx_r b2 1) (vx_J h 7 10).toNat) = x1 → P h) ∧ ((vx_J h (vx_r b2 1) (vx_J h 7 10).toNat) ≠ x1 → vx_CV d 167 [.ref 7, .int (vx_i 2), .int (vx_i x2)] h (fun h8 => vx_T 1 625 h8 → P h8)))) ∧ ((vx_J h (vx_r b2 1) (vx_J h 7 10).toNat) = 0 → (0 ≤ (vx_J h 7 10) ∧ (vx_J h 7 10) < 16) ∧ (∀ h10, h10 = vx_sJ h (vx_r b2 1) (vx_J h 7 10).toNat x1 → vx_T 1 625 h10 → P h10))))) ∧ ((vx_J h 7 10) = ((-1)) → vx_CV d 167 [.ref 7, .int (vx_i 2), .int (vx_i x2)] h (fun h11 => vx_T 1 625 h11 → P h11)))) : vx_CV (d + 1) 158 [.ref 7, .int (vx_i x1), .int (vx_i x2)] h P := by
  refine vx_enter (ml := 3) (by decide +kernel) ?_
  show vx_W _ _ 0 [some (.ref 7), some (.int (vx_i x1)), some (.int (vx_i x2))] [] h _
  refine vx_aload_n (n := 0) (q := 1) (by decide +kernel) rfl ?_
  refine vx_getI (idx := 129) (kd := 3) (s := 10) (fin := false) (q := 4) (by decide +kernel) (vx_Tk hT (by decide +kernel)) ?_
  refine vx_iconst (n := (-1)) (q := 5) (by decide +kernel) ?_
  refine vx_icmp_ne (off := 12) (q := 8) (t := 17) (by decide +kernel) (vx_rI_J h 7 10) (by decide) (fun c1 => ?_) (fun c1 => ?_)
  · replace H := H.1 c1
    refine vx_aload_n (n := 0) (q := 18) (by decide +kernel) rfl ?_
    obtain ⟨b2, eb2, ob2, H⟩ := H
    refine vx_getR (b := b2) (idx := 100) (kd := 3) (s := 6) (fin := false) (q := 21) (by decide +kernel) (vx_Tk hT (by decide +kernel)) eb2 ?_
    refine vx_getR (b := vx_r b2 1) (idx := 221) (kd := 5) (s := 1) (fin := true) (q := 24) (by decide +kernel) (vx_Tk hT ob2) (vx_Tr hT (kd := 5) ob2 (by decide +kernel) (vx_f5_1 ob2).1) ?_
    refine vx_aload_n (n := 0) (q := 25) (by decide +kernel) rfl ?_
    refine vx_getI (idx := 129) (kd := 3) (s := 10) (fin := false) (q := 28) (by decide +kernel) (vx_Tk hT (by decide +kernel)) ?_
    obtain ⟨k3, H⟩ := H
    refine vx_iaload (z := 16) (q := 29) (by decide +kernel) (vx_Tk hT (vx_f5_1 ob2).2.1) (vx_Tz hT ⟨(vx_f5_1 ob2).2.1.1, (vx_f5_1 ob2).2.2⟩) (vx_ix k3 (by decide)) ?_
    refine vx_if0_ne (off := 19) (q := 32) (t := 48) (by decide +kernel) (vx_rI_J h (vx_r b2 1) (vx_J h 7 10).toNat) (fun c4 => ?_) (fun c4 => ?_)
    · replace H := H.1 c4
      refine vx_aload_n (n := 0) (q := 49) (by decide +kernel) rfl ?_
      refine vx_getR (b := b2) (idx := 100) (kd := 3) (s := 6) (fin := false) (q := 52) (by decide +kernel) (vx_Tk hT (by decide +kernel)) eb2 ?_
      refine vx_getR (b := vx_r b2 1) (idx := 221) (kd := 5) (s := 1) (fin := true) (q := 55) (by decide +kernel) (vx_Tk hT ob2) (vx_Tr hT (kd := 5) ob2 (by decide +kernel) (vx_f5_1 ob2).1) ?_
      refine vx_aload_n (n := 0) (q := 56) (by decide +kernel) rfl ?_
      refine vx_getI (idx := 129) (kd := 3) (s := 10) (fin := false) (q := 59) (by decide +kernel) (vx_Tk hT (by decide +kernel)) ?_
      obtain ⟨k5, H⟩ := H
      refine vx_iaload (z := 16) (q := 60) (by decide +kernel) (vx_Tk hT (vx_f5_1 ob2).2.1) (vx_Tz hT ⟨(vx_f5_1 ob2).2.1.1, (vx_f5_1 ob2).2.2⟩) (vx_ix k5 (by decide)) ?_
      refine vx_iload_n (n := 1) (q := 61) (by decide +kernel) rfl ?_
      obtain ⟨k6, H⟩ := H
      refine vx_icmp_eq (off := 9) (q := 64) (t := 70) (by decide +kernel) (vx_rI_J h (vx_r b2 1) (vx_J h 7 10).toNat) k6 (fun c7 => ?_) (fun c7 => ?_)
      · replace H := H.1 c7
        refine vx_retV (q := 71) (by decide +kernel) ?_
        exact H
      · replace H := H.2 c7
        refine vx_aload_n (n := 0) (q := 65) (by decide +kernel) rfl ?_
        refine vx_iconst (n := 2) (q := 66) (by decide +kernel) ?_
        refine vx_iload_n (n := 2) (q := 67) (by decide +kernel) rfl ?_
        refine vx_callV (i := .invokevirtual 66) (how := 3) (cm := 167) (np := 3) (q := 70) (args := [.ref 7, .int (vx_i 2), .int (vx_i x2)]) (rest := []) (by decide +kernel) rfl rfl rfl (vx_w2 (w := 3) (ml := 3) rfl (by decide +kernel)) (vx_rcv (kd := 3) (vx_Tk hT (by decide +kernel)) (by decide +kernel)) H (fun h8 hs8 H => ?_)
        have hT8 := vx_Tsh hT hs8
        replace H := H hT8
        refine vx_retV (q := 71) (by decide +kernel) ?_
        exact H
    · replace H := H.2 c4
      refine vx_aload_n (n := 0) (q := 33) (by decide +kernel) rfl ?_
      refine vx_getR (b := b2) (idx := 100) (kd := 3) (s := 6) (fin := false) (q := 36) (by decide +kernel) (vx_Tk hT (by decide +kernel)) eb2 ?_
      refine vx_getR (b := vx_r b2 1) (idx := 221) (kd := 5) (s := 1) (fin := true) (q := 39) (by decide +kernel) (vx_Tk hT ob2) (vx_Tr hT (kd := 5) ob2 (by decide +kernel) (vx_f5_1 ob2).1) ?_
      refine vx_aload_n (n := 0) (q := 40) (by decide +kernel) rfl ?_
      refine vx_getI (idx := 129) (kd := 3) (s := 10) (fin := false) (q := 43) (by decide +kernel) (vx_Tk hT (by decide +kernel)) ?_
      refine vx_iload_n (n := 1) (q := 44) (by decide +kernel) rfl ?_
      obtain ⟨k9, H⟩ := H
      refine vx_iastore (z := 16) (q := 45) (by decide +kernel) (vx_Tk hT (vx_f5_1 ob2).2.1) (vx_Tz hT ⟨(vx_f5_1 ob2).2.1.1, (vx_f5_1 ob2).2.2⟩) (vx_ix k9 (by decide)) (fun h10 e10 => ?_)
      have hT10 := vx_TJ hT e10
      replace H := H h10 e10 hT10
      refine vx_goto (off := 25) (q := 48) (t := 70) (by decide +kernel) ?_
      refine vx_retV (q := 71) (by decide +kernel) ?_
      exact H
  · replace H := H.2 c1
    refine vx_aload_n (n := 0) (q := 9) (by decide +kernel) rfl ?_
    refine vx_iconst (n := 2) (q := 10) (by decide +kernel) ?_
    refine vx_iload_n (n := 2) (q := 11) (by decide +kernel) rfl ?_
    refine vx_callV (i := .invokevirtual 66) (how := 3) (cm := 167) (np := 3) (q := 14) (args := [.ref 7, .int (vx_i 2), .int (vx_i x2)]) (rest := []) (by decide +kernel) rfl rfl rfl (vx_w2 (w := 3) (ml := 3) rfl (by decide +kernel)) (vx_rcv (kd := 3) (vx_Tk hT (by decide +kernel)) (by decide +kernel)) H (fun h11 hs11 H => ?_)
    have hT11 := vx_Tsh hT hs11
    replace H := H hT11
    refine vx_goto (off := 56) (q := 17) (t := 70) (by decide +kernel) ?_
    refine vx_retV (q := 71) (by decide +kernel) ?_
    exact H
-- RuleHouse$Reader.openTotal(I)Z
theorem vg_159 {d : Nat} {h : ve_H} {P : Int → ve_H → Prop} {x1 : Int} (hT : vx_T 1 625 h) (H : (∃ b1, ve_R h 7 8 = some b1 ∧ vx_o 1 625 7 b1 ∧ (((vx_J h b1 2) = ((-1)) → vx_CI d 162 [.ref 7] h (fun r3 h3 => vx_T 1 625 h3 → (∀ h4, h4 = vx_sJ h3 b1 2 r3 → vx_T 1 625 h4 → (∃ b5, ve_R h4 7 8 = some b5 ∧ vx_o 1 625 7 b5 ∧ (∀ h6, h6 = vx_sJ h4 b5 3 x1 → vx_T 1 625 h6 → vx_CI d 163 [.ref 7] h6 (fun r7 h7 => vx_T 1 625 h7 → (∀ h8, h8 = vx_sJ h7 b5 4 r7 → vx_T 1 625 h8 → (∀ h9, h9 = vx_sJ h8 7 9 ((vx_J h8 7 9) + 1) → vx_T 1 625 h9 → vx_CI d 164 [.ref 7, .int (vx_i 40)] h9 (fun r10 h10 => vx_T 1 625 h10 → ((r10 = 0 → vx_CI d 163 [.ref 7] h10 (fun r12 h12 => vx_T 1 625 h12 → vx_CI d 166 [.ref 7, .int (vx_i r12)] h12 (fun r13 h13 => vx_T 1 625 h13 → ((r13 = 0 → P 0 h13) ∧ (r13 ≠ 0 → P 1 h13))))) ∧ (r10 ≠ 0 → vx_CI d 162 [.ref 7] h10 (fun r15 h15 => vx_T 1 625 h15 → ((r15 = 3 → P 1 h15) ∧ (r15 ≠ 3 → vx_CI d 163 [.ref 7] h15 (fun r17 h17 => vx_T 1 625 h17 → vx_CI d 166 [.ref 7, .int (vx_i r17)] h17 (fun r18 h18 => vx_T 1 625 h18 → ((r18 = 0 → P 0 h18) ∧ (r18 ≠ 0 → P 1 h18)))))))))))))))))) ∧ ((vx_J h b1 2) ≠ ((-1)) → vx_CI d 163 [.ref 7] h (fun r20 h20 => vx_T 1 625 h20 → vx_CI d 166 [.ref 7, .int (vx_i r20)] h20 (fun r21 h21 => vx_T 1 625 h21 → (r21 = 0 ∨ r21 = 1) ∧ P r21 h21)))))) : vx_CI (d + 1) 159 [.ref 7, .int (vx_i x1)] h P := by
  refine vx_enter (ml := 2) (by decide +kernel) ?_
  show vx_W _ _ 0 [some (.ref 7), some (.int (vx_i x1))] [] h _
  refine vx_aload_n (n := 0) (q := 1) (by decide +kernel) rfl ?_
  obtain ⟨b1, eb1, ob1, H⟩ := H
  refine vx_getR (b := b1) (idx := 36) (kd := 3) (s := 8) (fin := false) (q := 4) (by decide +kernel) (vx_Tk hT (by decide +kernel)) eb1 ?_
  refine vx_getI (idx := 160) (kd := 7) (s := 2) (fin := false) (q := 7) (by decide +kernel) (vx_Tk hT ob1) ?_
  refine vx_iconst (n := (-1)) (q := 8) (by decide +kernel) ?_
  refine vx_icmp_eq (off := 12) (q := 11) (t := 20) (by decide +kernel) (vx_rI_J h b1 2) (by decide) (fun c2 => ?_) (fun c2 => ?_)
  · replace H := H.1 c2
    refine vx_aload_n (n := 0) (q := 21) (by decide +kernel) rfl ?_
    refine vx_getR (b := b1) (idx := 36) (kd := 3) (s := 8) (fin := false) (q := 24) (by decide +kernel) (vx_Tk hT (by decide +kernel)) eb1 ?_
    refine vx_aload_n (n := 0) (q := 25) (by decide +kernel) rfl ?_
    refine vx_callI (i := .invokevirtual 48) (how := 3) (cm := 162) (np := 1) (q := 28) (args := [.ref 7]) (rest := [.ref b1]) (by decide +kernel) rfl rfl rfl (vx_w2 (w := 1) (ml := 1) rfl (by decide +kernel)) (vx_rcv (kd := 3) (vx_Tk hT (by decide +kernel)) (by decide +kernel)) H (fun r3 h3 hr3 hs3 H => ?_)
    have hT3 := vx_Tsh hT hs3
    replace H := H hT3
    refine vx_putI (idx := 160) (kd := 7) (s := 2) (fin := false) (q := 31) (by decide +kernel) (vx_Tk hT3 ob1) (fun h4 e4 => ?_)
    have hT4 := vx_TJ hT3 e4
    replace H := H h4 e4 hT4
    refine vx_aload_n (n := 0) (q := 32) (by decide +kernel) rfl ?_
    obtain ⟨b5, eb5, ob5, H⟩ := H
    refine vx_getR (b := b5) (idx := 36) (kd := 3) (s := 8) (fin := false) (q := 35) (by decide +kernel) (vx_Tk hT4 (by decide +kernel)) eb5 ?_
    refine vx_iload_n (n := 1) (q := 36) (by decide +kernel) rfl ?_
    refine vx_putI (idx := 224) (kd := 7) (s := 3) (fin := false) (q := 39) (by decide +kernel) (vx_Tk hT4 ob5) (fun h6 e6 => ?_)
    have hT6 := vx_TJ hT4 e6
    replace H := H h6 e6 hT6
    refine vx_aload_n (n := 0) (q := 40) (by decide +kernel) rfl ?_
    refine vx_getR (b := b5) (idx := 36) (kd := 3) (s := 8) (fin := false) (q := 43) (by decide +kernel) (vx_Tk hT6 (by decide +kernel)) (vx_RtJ e6 eb5) ?_
    refine vx_aload_n (n := 0) (q := 44) (by decide +kernel) rfl ?_
    refine vx_callI (i := .invokevirtual 126) (how := 3) (cm := 163) (np := 1) (q := 47) (args := [.ref 7]) (rest := [.ref b5]) (by decide +kernel) rfl rfl rfl (vx_w2 (w := 1) (ml := 1) rfl (by decide +kernel)) (vx_rcv (kd := 3) (vx_Tk hT6 (by decide +kernel)) (by decide +kernel)) H (fun r7 h7 hr7 hs7 H => ?_)
    have hT7 := vx_Tsh hT6 hs7
    replace H := H hT7
    refine vx_putI (idx := 163) (kd := 7) (s := 4) (fin := false) (q := 50) (by decide +kernel) (vx_Tk hT7 ob5) (fun h8 e8 => ?_)
    have hT8 := vx_TJ hT7 e8
    replace H := H h8 e8 hT8
    refine vx_aload_n (n := 0) (q := 51) (by decide +kernel) rfl ?_
    refine vx_dupR (q := 52) (by decide +kernel) ?_
    refine vx_getI (idx := 108) (kd := 3) (s := 9) (fin := false) (q := 55) (by decide +kernel) (vx_Tk hT8 (by decide +kernel)) ?_
    refine vx_iconst (n := 1) (q := 56) (by decide +kernel) ?_
    refine vx_iadd (q := 57) (by decide +kernel) ?_
    refine vx_putI (idx := 108) (kd := 3) (s := 9) (fin := false) (q := 60) (by decide +kernel) (vx_Tk hT8 (by decide +kernel)) (fun h9 e9 => ?_)
    have hT9 := vx_TJ hT8 e9
    replace H := H h9 e9 hT9
    refine vx_aload_n (n := 0) (q := 61) (by decide +kernel) rfl ?_
    refine vx_bipush (n := 40) (q := 63) (by decide +kernel) ?_
    refine vx_callI (i := .invokevirtual 144) (how := 3) (cm := 164) (np := 2) (q := 66) (args := [.ref 7, .int (vx_i 40)]) (rest := []) (by decide +kernel) rfl rfl rfl (vx_w2 (w := 2) (ml := 2) rfl (by decide +kernel)) (vx_rcv (kd := 3) (vx_Tk hT9 (by decide +kernel)) (by decide +kernel)) H (fun r10 h10 hr10 hs10 H => ?_)
    have hT10 := vx_Tsh hT9 hs10
    replace H := H hT10
    refine vx_if0_eq (off := 11) (q := 69) (t := 77) (by decide +kernel) hr10 (fun c11 => ?_) (fun c11 => ?_)
    · replace H := H.1 c11
      refine vx_aload_n (n := 0) (q := 78) (by decide +kernel) rfl ?_
      refine vx_aload_n (n := 0) (q := 79) (by decide +kernel) rfl ?_
      refine vx_callI (i := .invokevirtual 126) (how := 3) (cm := 163) (np := 1) (q := 82) (args := [.ref 7]) (rest := [.ref 7]) (by decide +kernel) rfl rfl rfl (vx_w2 (w := 1) (ml := 1) rfl (by decide +kernel)) (vx_rcv (kd := 3) (vx_Tk hT10 (by decide +kernel)) (by decide +kernel)) H (fun r12 h12 hr12 hs12 H => ?_)
      have hT12 := vx_Tsh hT10 hs12
      replace H := H hT12
      refine vx_callI (i := .invokevirtual 157) (how := 3) (cm := 166) (np := 2) (q := 85) (args := [.ref 7, .int (vx_i r12)]) (rest := []) (by decide +kernel) rfl rfl rfl (vx_w2 (w := 2) (ml := 2) rfl (by decide +kernel)) (vx_rcv (kd := 3) (vx_Tk hT12 (by decide +kernel)) (by decide +kernel)) H (fun r13 h13 hr13 hs13 H => ?_)
      have hT13 := vx_Tsh hT12 hs13
      replace H := H hT13
      refine vx_if0_eq (off := 7) (q := 88) (t := 92) (by decide +kernel) hr13 (fun c14 => ?_) (fun c14 => ?_)
      · replace H := H.1 c14
        refine vx_iconst (n := 0) (q := 93) (by decide +kernel) ?_
        refine vx_retZ (q := 94) (by decide +kernel) (Or.inl rfl) ?_
        exact H
      · replace H := H.2 c14
        refine vx_iconst (n := 1) (q := 89) (by decide +kernel) ?_
        refine vx_goto (off := 4) (q := 92) (t := 93) (by decide +kernel) ?_
        refine vx_retZ (q := 94) (by decide +kernel) (Or.inr rfl) ?_
        exact H
    · replace H := H.2 c11
      refine vx_aload_n (n := 0) (q := 70) (by decide +kernel) rfl ?_
      refine vx_callI (i := .invokevirtual 48) (how := 3) (cm := 162) (np := 1) (q := 73) (args := [.ref 7]) (rest := []) (by decide +kernel) rfl rfl rfl (vx_w2 (w := 1) (ml := 1) rfl (by decide +kernel)) (vx_rcv (kd := 3) (vx_Tk hT10 (by decide +kernel)) (by decide +kernel)) H (fun r15 h15 hr15 hs15 H => ?_)
      have hT15 := vx_Tsh hT10 hs15
      replace H := H hT15
      refine vx_iconst (n := 3) (q := 74) (by decide +kernel) ?_
      refine vx_icmp_eq (off := 14) (q := 77) (t := 88) (by decide +kernel) hr15 (by decide) (fun c16 => ?_) (fun c16 => ?_)
      · replace H := H.1 c16
        refine vx_iconst (n := 1) (q := 89) (by decide +kernel) ?_
        refine vx_goto (off := 4) (q := 92) (t := 93) (by decide +kernel) ?_
        refine vx_retZ (q := 94) (by decide +kernel) (Or.inr rfl) ?_
        exact H
      · replace H := H.2 c16
        refine vx_aload_n (n := 0) (q := 78) (by decide +kernel) rfl ?_
        refine vx_aload_n (n := 0) (q := 79) (by decide +kernel) rfl ?_
        refine vx_callI (i := .invokevirtual 126) (how := 3) (cm := 163) (np := 1) (q := 82) (args := [.ref 7]) (rest := [.ref 7]) (by decide +kernel) rfl rfl rfl (vx_w2 (w := 1) (ml := 1) rfl (by decide +kernel)) (vx_rcv (kd := 3) (vx_Tk hT15 (by decide +kernel)) (by decide +kernel)) H (fun r17 h17 hr17 hs17 H => ?_)
        have hT17 := vx_Tsh hT15 hs17
        replace H := H hT17
        refine vx_callI (i := .invokevirtual 157) (how := 3) (cm := 166) (np := 2) (q := 85) (args := [.ref 7, .int (vx_i r17)]) (rest := []) (by decide +kernel) rfl rfl rfl (vx_w2 (w := 2) (ml := 2) rfl (by decide +kernel)) (vx_rcv (kd := 3) (vx_Tk hT17 (by decide +kernel)) (by decide +kernel)) H (fun r18 h18 hr18 hs18 H => ?_)
        have hT18 := vx_Tsh hT17 hs18
        replace H := H hT18
        refine vx_if0_eq (off := 7) (q := 88) (t := 92) (by decide +kernel) hr18 (fun c19 => ?_) (fun c19 => ?_)
        · replace H := H.1 c19
          refine vx_iconst (n := 0) (q := 93) (by decide +kernel) ?_
          refine vx_retZ (q := 94) (by decide +kernel) (Or.inl rfl) ?_
          exact H
        · replace H := H.2 c19
          refine vx_iconst (n := 1) (q := 89) (by decide +kernel) ?_
          refine vx_goto (off := 4) (q := 92) (t := 93) (by decide +kernel) ?_
          refine vx_retZ (q := 94) (by decide +kernel) (Or.inr rfl) ?_
          exact H
  · replace H := H.2 c2
    refine vx_aload_n (n := 0) (q := 12) (by decide +kernel) rfl ?_
    refine vx_aload_n (n := 0) (q := 13) (by decide +kernel) rfl ?_
    refine vx_callI (i := .invokevirtual 126) (how := 3) (cm := 163) (np := 1) (q := 16) (args := [.ref 7]) (rest := [.ref 7]) (by decide +kernel) rfl rfl rfl (vx_w2 (w := 1) (ml := 1) rfl (by decide +kernel)) (vx_rcv (kd := 3) (vx_Tk hT (by decide +kernel)) (by decide +kernel)) H (fun r20 h20 hr20 hs20 H => ?_)
    have hT20 := vx_Tsh hT hs20
    replace H := H hT20
    refine vx_callI (i := .invokevirtual 157) (how := 3) (cm := 166) (np := 2) (q := 19) (args := [.ref 7, .int (vx_i r20)]) (rest := []) (by decide +kernel) rfl rfl rfl (vx_w2 (w := 2) (ml := 2) rfl (by decide +kernel)) (vx_rcv (kd := 3) (vx_Tk hT20 (by decide +kernel)) (by decide +kernel)) H (fun r21 h21 hr21 hs21 H => ?_)
    have hT21 := vx_Tsh hT20 hs21
    replace H := H hT21
    obtain ⟨k22, H⟩ := H
    refine vx_retZ (q := 20) (by decide +kernel) k22 ?_
    exact H
-- RuleHouse$Reader.readTerm(II)Z
theorem vg_160 {d : Nat} {h : ve_H} {P : Int → ve_H → Prop} {x1 : Int} {x2 : Int} (hT : vx_T 1 625 h) (H : vx_CI d 164 [.ref 7, .int (vx_i 45)] h (fun r1 h1 => vx_T 1 625 h1 → vx_CI d 162 [.ref 7] h1 (fun r2 h2 => vx_T 1 625 h2 → ((r2 ≠ 4 → ((r1 = 0 → ((r2 ≠ 2 → ((r2 ≠ 3 → ((r2 ≠ 95 → vx_CI d 163 [.ref 7] h2 (fun r8 h8 => vx_T 1 625 h8 → vx_CI d 166 [.ref 7, .int (vx_i r8)] h8 (fun r9 h9 => vx_T 1 625 h9 → (r9 = 0 ∨ r9 = 1) ∧ P r9 h9))) ∧ (r2 = 95 → (vx_rI x2) ∧ ((x2 = 15 → (0 ≤ x1 ∧ x1 < 4) ∧ (∀ h14, h14 = vx_sK h2 17 x1.toNat 288230376151711744 → vx_T 1 625 h14 → (∀ h15, h15 = vx_sJ h14 7 9 ((vx_J h14 7 9) + 1) → vx_T 1 625 h15 → P 1 h15))) ∧ (x2 ≠ 15 → ((x2 ≠ 14 → vx_CI d 163 [.ref 7] h2 (fun r17 h17 => vx_T 1 625 h17 → vx_CI d 166 [.ref 7, .int (vx_i r17)] h17 (fun r18 h18 => vx_T 1 625 h18 → (r18 = 0 ∨ r18 = 1) ∧ P r18 h18))) ∧ (x2 = 14 → (∃ b20, ve_R h2 7 8 = some b20 ∧ vx_o 1 625 7 b20 ∧ (((vx_J h2 b20 2) ≠ ((-1)) → vx_CI d 163 [.ref 7] h2 (fun r22 h22 => vx_T 1 625 h22 → vx_CI d 166 [.ref 7, .int (vx_i r22)] h22 (fun r23 h23 => vx_T 1 625 h23 → (r23 = 0 ∨ r23 = 1) ∧ P r23 h23))) ∧ ((vx_J h2 b20 2) = ((-1)) → (0 ≤ x1 ∧ x1 < 4) ∧ (∀ h26, h26 = vx_sK h2 17 x1.toNat 288230376151711744 → vx_T 1 625 h26 → (∀ h27, h27 = vx_sJ h26 7 9 ((vx_J h26 7 9) + 1) → vx_T 1 625 h27 → P 1 h27)))))))))))) ∧ (r2 = 3 → vx_CI d 161 [.ref 7] h2 (fun r28 h28 => vx_T 1 625 h28 → ((r28 ≠ ((-1)) → (0 ≤ x1 ∧ x1 < 4) ∧ (∀ h31, h31 = vx_sK h28 17 x1.toNat (144115188075855872 + r28) → vx_T 1 625 h31 → (∀ h32, h32 = vx_sJ h31 7 9 ((vx_J h31 7 9) + 1) → vx_T 1 625 h32 → P 1 h32))) ∧ (r28 = ((-1)) → vx_CI d 163 [.ref 7] h28 (fun r33 h33 => vx_T 1 625 h33 → vx_CI d 166 [.ref 7, .int (vx_i r33)] h33 (fun r34 h34 => vx_T 1 625 h34 → (r34 = 0 ∨ r34 = 1) ∧ P r34 h34)))))))) ∧ (r2 = 2 → (0 ≤ (vx_J h2 7 9) ∧ (vx_J h2 7 9) < 601) ∧ (0 ≤ x1 ∧ x1 < 4) ∧ (∀ h38, h38 = vx_sK h2 17 x1.toNat (vx_K h2 6 (vx_J h2 7 9).toNat) → vx_T 1 625 h38 → (∀ h39, h39 = vx_sJ h38 7 9 ((vx_J h38 7 9) + 1) → vx_T 1 625 h39 → P 1 h39))))) ∧ (r1 ≠ 0 → vx_CI d 163 [.ref 7] h2 (fun r40 h40 => vx_T 1 625 h40 → vx_CI d 166 [.ref 7, .int (vx_i r40)] h40 (fun r41 h41 => vx_T 1 625 h41 → (r41 = 0 ∨ r41 = 1) ∧ P r41 h41))))) ∧ (r2 = 4 → ((r1 = 0 → (0 ≤ (vx_J h2 7 9) ∧ (vx_J h2 7 9) < 601) ∧ (0 ≤ x1 ∧ x1 < 4) ∧ (∀ h46, h46 = vx_sK h2 17 x1.toNat (vx_K h2 6 (vx_J h2 7 9).toNat) → vx_T 1 625 h46 → (∀ h47, h47 = vx_sJ h46 7 9 ((vx_J h46 7 9) + 1) → vx_T 1 625 h47 → P 1 h47))) ∧ (r1 ≠ 0 → (0 ≤ (vx_J h2 7 9) ∧ (vx_J h2 7 9) < 601) ∧ (0 ≤ x1 ∧ x1 < 4) ∧ (∀ h50, h50 = vx_sK h2 17 x1.toNat (-(vx_K h2 6 (vx_J h2 7 9).toNat)) → vx_T 1 625 h50 → (∀ h51, h51 = vx_sJ h50 7 9 ((vx_J h50 7 9) + 1) → vx_T 1 625 h51 → P 1 h51))))))))) : vx_CI (d + 1) 160 [.ref 7, .int (vx_i x1), .int (vx_i x2)] h P := by
  refine vx_enter (ml := 6) (by decide +kernel) ?_
  show vx_W _ _ 0 [some (.ref 7), some (.int (vx_i x1)), some (.int (vx_i x2)), none, none, none] [] h _
  refine vx_aload_n (n := 0) (q := 1) (by decide +kernel) rfl ?_
  refine vx_bipush (n := 45) (q := 3) (by decide +kernel) ?_
  refine vx_callI (i := .invokevirtual 144) (how := 3) (cm := 164) (np := 2) (q := 6) (args := [.ref 7, .int (vx_i 45)]) (rest := []) (by decide +kernel) rfl rfl rfl (vx_w2 (w := 2) (ml := 2) rfl (by decide +kernel)) (vx_rcv (kd := 3) (vx_Tk hT (by decide +kernel)) (by decide +kernel)) H (fun r1 h1 hr1 hs1 H => ?_)
  have hT1 := vx_Tsh hT hs1
  replace H := H hT1
  refine vx_istore_n (n := 3) (q := 7) (lv' := [some (.ref 7), some (.int (vx_i x1)), some (.int (vx_i x2)), some (.int (vx_i r1)), none, none]) (by decide +kernel) rfl ?_
  refine vx_aload_n (n := 0) (q := 8) (by decide +kernel) rfl ?_
  refine vx_callI (i := .invokevirtual 48) (how := 3) (cm := 162) (np := 1) (q := 11) (args := [.ref 7]) (rest := []) (by decide +kernel) rfl rfl rfl (vx_w2 (w := 1) (ml := 1) rfl (by decide +kernel)) (vx_rcv (kd := 3) (vx_Tk hT1 (by decide +kernel)) (by decide +kernel)) H (fun r2 h2 hr2 hs2 H => ?_)
  have hT2 := vx_Tsh hT1 hs2
  replace H := H hT2
  refine vx_istore (n := 4) (q := 13) (lv' := [some (.ref 7), some (.int (vx_i x1)), some (.int (vx_i x2)), some (.int (vx_i r1)), some (.int (vx_i r2)), none]) (by decide +kernel) rfl ?_
  refine vx_iload (n := 4) (q := 15) (by decide +kernel) rfl ?_
  refine vx_iconst (n := 4) (q := 16) (by decide +kernel) ?_
  refine vx_icmp_ne (off := 44) (q := 19) (t := 60) (by decide +kernel) hr2 (by decide) (fun c3 => ?_) (fun c3 => ?_)
  · replace H := H.1 c3
    refine vx_iload_n (n := 3) (q := 61) (by decide +kernel) rfl ?_
    refine vx_if0_eq (off := 12) (q := 64) (t := 73) (by decide +kernel) hr1 (fun c4 => ?_) (fun c4 => ?_)
    · replace H := H.1 c4
      refine vx_iload (n := 4) (q := 75) (by decide +kernel) rfl ?_
      refine vx_iconst (n := 2) (q := 76) (by decide +kernel) ?_
      refine vx_icmp_ne (off := 24) (q := 79) (t := 100) (by decide +kernel) hr2 (by decide) (fun c5 => ?_) (fun c5 => ?_)
      · replace H := H.1 c5
        refine vx_iload (n := 4) (q := 102) (by decide +kernel) rfl ?_
        refine vx_iconst (n := 3) (q := 103) (by decide +kernel) ?_
        refine vx_icmp_ne (off := 40) (q := 106) (t := 143) (by decide +kernel) hr2 (by decide) (fun c6 => ?_) (fun c6 => ?_)
        · replace H := H.1 c6
          refine vx_iload (n := 4) (q := 145) (by decide +kernel) rfl ?_
          refine vx_bipush (n := 95) (q := 147) (by decide +kernel) ?_
          refine vx_icmp_ne (off := 38) (q := 150) (t := 185) (by decide +kernel) hr2 (by decide) (fun c7 => ?_) (fun c7 => ?_)
          · replace H := H.1 c7
            refine vx_aload_n (n := 0) (q := 186) (by decide +kernel) rfl ?_
            refine vx_aload_n (n := 0) (q := 187) (by decide +kernel) rfl ?_
            refine vx_callI (i := .invokevirtual 126) (how := 3) (cm := 163) (np := 1) (q := 190) (args := [.ref 7]) (rest := [.ref 7]) (by decide +kernel) rfl rfl rfl (vx_w2 (w := 1) (ml := 1) rfl (by decide +kernel)) (vx_rcv (kd := 3) (vx_Tk hT2 (by decide +kernel)) (by decide +kernel)) H (fun r8 h8 hr8 hs8 H => ?_)
            have hT8 := vx_Tsh hT2 hs8
            replace H := H hT8
            refine vx_callI (i := .invokevirtual 157) (how := 3) (cm := 166) (np := 2) (q := 193) (args := [.ref 7, .int (vx_i r8)]) (rest := []) (by decide +kernel) rfl rfl rfl (vx_w2 (w := 2) (ml := 2) rfl (by decide +kernel)) (vx_rcv (kd := 3) (vx_Tk hT8 (by decide +kernel)) (by decide +kernel)) H (fun r9 h9 hr9 hs9 H => ?_)
            have hT9 := vx_Tsh hT8 hs9
            replace H := H hT9
            obtain ⟨k10, H⟩ := H
            refine vx_retZ (q := 194) (by decide +kernel) k10 ?_
            exact H
          · replace H := H.2 c7
            refine vx_iload_n (n := 2) (q := 151) (by decide +kernel) rfl ?_
            refine vx_bipush (n := 15) (q := 153) (by decide +kernel) ?_
            obtain ⟨k11, H⟩ := H
            refine vx_icmp_eq (off := 20) (q := 156) (t := 173) (by decide +kernel) k11 (by decide) (fun c12 => ?_) (fun c12 => ?_)
            · replace H := H.1 c12
              refine vx_aload_n (n := 0) (q := 174) (by decide +kernel) rfl ?_
              refine vx_getR (b := 17) (idx := 18) (kd := 3) (s := 2) (fin := true) (q := 177) (by decide +kernel) (vx_Tk hT2 (by decide +kernel)) (vx_Tr hT2 (kd := 3) (by decide +kernel) (by decide +kernel) (by decide +kernel)) ?_
              refine vx_iload_n (n := 1) (q := 178) (by decide +kernel) rfl ?_
              refine vx_ldc (idx := 232) (v := 288230376151711744) (m := 288230376151711744) (q := 181) (by decide +kernel) ?_
              obtain ⟨k13, H⟩ := H
              refine vx_lastore (z := 4) (q := 182) (by decide +kernel) (vx_Tk hT2 (by decide +kernel)) (vx_Tz hT2 (by decide +kernel)) (vx_ix k13 (by decide)) (fun h14 e14 => ?_)
              have hT14 := vx_TK hT2 e14
              replace H := H h14 e14 hT14
              refine vx_goto (off := 12) (q := 185) (t := 194) (by decide +kernel) ?_
              refine vx_aload_n (n := 0) (q := 195) (by decide +kernel) rfl ?_
              refine vx_dupR (q := 196) (by decide +kernel) ?_
              refine vx_getI (idx := 108) (kd := 3) (s := 9) (fin := false) (q := 199) (by decide +kernel) (vx_Tk hT14 (by decide +kernel)) ?_
              refine vx_iconst (n := 1) (q := 200) (by decide +kernel) ?_
              refine vx_iadd (q := 201) (by decide +kernel) ?_
              refine vx_putI (idx := 108) (kd := 3) (s := 9) (fin := false) (q := 204) (by decide +kernel) (vx_Tk hT14 (by decide +kernel)) (fun h15 e15 => ?_)
              have hT15 := vx_TJ hT14 e15
              replace H := H h15 e15 hT15
              refine vx_iconst (n := 1) (q := 205) (by decide +kernel) ?_
              refine vx_retZ (q := 206) (by decide +kernel) (Or.inr rfl) ?_
              exact H
            · replace H := H.2 c12
              refine vx_iload_n (n := 2) (q := 157) (by decide +kernel) rfl ?_
              refine vx_bipush (n := 14) (q := 159) (by decide +kernel) ?_
              refine vx_icmp_ne (off := 26) (q := 162) (t := 185) (by decide +kernel) k11 (by decide) (fun c16 => ?_) (fun c16 => ?_)
              · replace H := H.1 c16
                refine vx_aload_n (n := 0) (q := 186) (by decide +kernel) rfl ?_
                refine vx_aload_n (n := 0) (q := 187) (by decide +kernel) rfl ?_
                refine vx_callI (i := .invokevirtual 126) (how := 3) (cm := 163) (np := 1) (q := 190) (args := [.ref 7]) (rest := [.ref 7]) (by decide +kernel) rfl rfl rfl (vx_w2 (w := 1) (ml := 1) rfl (by decide +kernel)) (vx_rcv (kd := 3) (vx_Tk hT2 (by decide +kernel)) (by decide +kernel)) H (fun r17 h17 hr17 hs17 H => ?_)
                have hT17 := vx_Tsh hT2 hs17
                replace H := H hT17
                refine vx_callI (i := .invokevirtual 157) (how := 3) (cm := 166) (np := 2) (q := 193) (args := [.ref 7, .int (vx_i r17)]) (rest := []) (by decide +kernel) rfl rfl rfl (vx_w2 (w := 2) (ml := 2) rfl (by decide +kernel)) (vx_rcv (kd := 3) (vx_Tk hT17 (by decide +kernel)) (by decide +kernel)) H (fun r18 h18 hr18 hs18 H => ?_)
                have hT18 := vx_Tsh hT17 hs18
                replace H := H hT18
                obtain ⟨k19, H⟩ := H
                refine vx_retZ (q := 194) (by decide +kernel) k19 ?_
                exact H
              · replace H := H.2 c16
                refine vx_aload_n (n := 0) (q := 163) (by decide +kernel) rfl ?_
                obtain ⟨b20, eb20, ob20, H⟩ := H
                refine vx_getR (b := b20) (idx := 36) (kd := 3) (s := 8) (fin := false) (q := 166) (by decide +kernel) (vx_Tk hT2 (by decide +kernel)) eb20 ?_
                refine vx_getI (idx := 160) (kd := 7) (s := 2) (fin := false) (q := 169) (by decide +kernel) (vx_Tk hT2 ob20) ?_
                refine vx_iconst (n := (-1)) (q := 170) (by decide +kernel) ?_
                refine vx_icmp_ne (off := 15) (q := 173) (t := 185) (by decide +kernel) (vx_rI_J h2 b20 2) (by decide) (fun c21 => ?_) (fun c21 => ?_)
                · replace H := H.1 c21
                  refine vx_aload_n (n := 0) (q := 186) (by decide +kernel) rfl ?_
                  refine vx_aload_n (n := 0) (q := 187) (by decide +kernel) rfl ?_
                  refine vx_callI (i := .invokevirtual 126) (how := 3) (cm := 163) (np := 1) (q := 190) (args := [.ref 7]) (rest := [.ref 7]) (by decide +kernel) rfl rfl rfl (vx_w2 (w := 1) (ml := 1) rfl (by decide +kernel)) (vx_rcv (kd := 3) (vx_Tk hT2 (by decide +kernel)) (by decide +kernel)) H (fun r22 h22 hr22 hs22 H => ?_)
                  have hT22 := vx_Tsh hT2 hs22
                  replace H := H hT22
                  refine vx_callI (i := .invokevirtual 157) (how := 3) (cm := 166) (np := 2) (q := 193) (args := [.ref 7, .int (vx_i r22)]) (rest := []) (by decide +kernel) rfl rfl rfl (vx_w2 (w := 2) (ml := 2) rfl (by decide +kernel)) (vx_rcv (kd := 3) (vx_Tk hT22 (by decide +kernel)) (by decide +kernel)) H (fun r23 h23 hr23 hs23 H => ?_)
                  have hT23 := vx_Tsh hT22 hs23
                  replace H := H hT23
                  obtain ⟨k24, H⟩ := H
                  refine vx_retZ (q := 194) (by decide +kernel) k24 ?_
                  exact H
                · replace H := H.2 c21
                  refine vx_aload_n (n := 0) (q := 174) (by decide +kernel) rfl ?_
                  refine vx_getR (b := 17) (idx := 18) (kd := 3) (s := 2) (fin := true) (q := 177) (by decide +kernel) (vx_Tk hT2 (by decide +kernel)) (vx_Tr hT2 (kd := 3) (by decide +kernel) (by decide +kernel) (by decide +kernel)) ?_
                  refine vx_iload_n (n := 1) (q := 178) (by decide +kernel) rfl ?_
                  refine vx_ldc (idx := 232) (v := 288230376151711744) (m := 288230376151711744) (q := 181) (by decide +kernel) ?_
                  obtain ⟨k25, H⟩ := H
                  refine vx_lastore (z := 4) (q := 182) (by decide +kernel) (vx_Tk hT2 (by decide +kernel)) (vx_Tz hT2 (by decide +kernel)) (vx_ix k25 (by decide)) (fun h26 e26 => ?_)
                  have hT26 := vx_TK hT2 e26
                  replace H := H h26 e26 hT26
                  refine vx_goto (off := 12) (q := 185) (t := 194) (by decide +kernel) ?_
                  refine vx_aload_n (n := 0) (q := 195) (by decide +kernel) rfl ?_
                  refine vx_dupR (q := 196) (by decide +kernel) ?_
                  refine vx_getI (idx := 108) (kd := 3) (s := 9) (fin := false) (q := 199) (by decide +kernel) (vx_Tk hT26 (by decide +kernel)) ?_
                  refine vx_iconst (n := 1) (q := 200) (by decide +kernel) ?_
                  refine vx_iadd (q := 201) (by decide +kernel) ?_
                  refine vx_putI (idx := 108) (kd := 3) (s := 9) (fin := false) (q := 204) (by decide +kernel) (vx_Tk hT26 (by decide +kernel)) (fun h27 e27 => ?_)
                  have hT27 := vx_TJ hT26 e27
                  replace H := H h27 e27 hT27
                  refine vx_iconst (n := 1) (q := 205) (by decide +kernel) ?_
                  refine vx_retZ (q := 206) (by decide +kernel) (Or.inr rfl) ?_
                  exact H
        · replace H := H.2 c6
          refine vx_aload_n (n := 0) (q := 107) (by decide +kernel) rfl ?_
          refine vx_callI (i := .invokevirtual 227) (how := 3) (cm := 161) (np := 1) (q := 110) (args := [.ref 7]) (rest := []) (by decide +kernel) rfl rfl rfl (vx_w2 (w := 1) (ml := 2) rfl (by decide +kernel)) (vx_rcv (kd := 3) (vx_Tk hT2 (by decide +kernel)) (by decide +kernel)) H (fun r28 h28 hr28 hs28 H => ?_)
          have hT28 := vx_Tsh hT2 hs28
          replace H := H hT28
          refine vx_istore (n := 5) (q := 112) (lv' := [some (.ref 7), some (.int (vx_i x1)), some (.int (vx_i x2)), some (.int (vx_i r1)), some (.int (vx_i r2)), some (.int (vx_i r28))]) (by decide +kernel) rfl ?_
          refine vx_iload (n := 5) (q := 114) (by decide +kernel) rfl ?_
          refine vx_iconst (n := (-1)) (q := 115) (by decide +kernel) ?_
          refine vx_icmp_ne (off := 12) (q := 118) (t := 127) (by decide +kernel) hr28 (by decide) (fun c29 => ?_) (fun c29 => ?_)
          · replace H := H.1 c29
            refine vx_aload_n (n := 0) (q := 128) (by decide +kernel) rfl ?_
            refine vx_getR (b := 17) (idx := 18) (kd := 3) (s := 2) (fin := true) (q := 131) (by decide +kernel) (vx_Tk hT28 (by decide +kernel)) (vx_Tr hT28 (kd := 3) (by decide +kernel) (by decide +kernel) (by decide +kernel)) ?_
            refine vx_iload_n (n := 1) (q := 132) (by decide +kernel) rfl ?_
            refine vx_ldc (idx := 230) (v := 144115188075855872) (m := 144115188075855872) (q := 135) (by decide +kernel) ?_
            refine vx_iload (n := 5) (q := 137) (by decide +kernel) rfl ?_
            refine vx_i2l (q := 138) (by decide +kernel) hr28 ?_
            refine vx_ladd (q := 139) (by decide +kernel) ?_
            obtain ⟨k30, H⟩ := H
            refine vx_lastore (z := 4) (q := 140) (by decide +kernel) (vx_Tk hT28 (by decide +kernel)) (vx_Tz hT28 (by decide +kernel)) (vx_ix k30 (by decide)) (fun h31 e31 => ?_)
            have hT31 := vx_TK hT28 e31
            replace H := H h31 e31 hT31
            refine vx_goto (off := 54) (q := 143) (t := 194) (by decide +kernel) ?_
            refine vx_aload_n (n := 0) (q := 195) (by decide +kernel) rfl ?_
            refine vx_dupR (q := 196) (by decide +kernel) ?_
            refine vx_getI (idx := 108) (kd := 3) (s := 9) (fin := false) (q := 199) (by decide +kernel) (vx_Tk hT31 (by decide +kernel)) ?_
            refine vx_iconst (n := 1) (q := 200) (by decide +kernel) ?_
            refine vx_iadd (q := 201) (by decide +kernel) ?_
            refine vx_putI (idx := 108) (kd := 3) (s := 9) (fin := false) (q := 204) (by decide +kernel) (vx_Tk hT31 (by decide +kernel)) (fun h32 e32 => ?_)
            have hT32 := vx_TJ hT31 e32
            replace H := H h32 e32 hT32
            refine vx_iconst (n := 1) (q := 205) (by decide +kernel) ?_
            refine vx_retZ (q := 206) (by decide +kernel) (Or.inr rfl) ?_
            exact H
          · replace H := H.2 c29
            refine vx_aload_n (n := 0) (q := 119) (by decide +kernel) rfl ?_
            refine vx_aload_n (n := 0) (q := 120) (by decide +kernel) rfl ?_
            refine vx_callI (i := .invokevirtual 126) (how := 3) (cm := 163) (np := 1) (q := 123) (args := [.ref 7]) (rest := [.ref 7]) (by decide +kernel) rfl rfl rfl (vx_w2 (w := 1) (ml := 1) rfl (by decide +kernel)) (vx_rcv (kd := 3) (vx_Tk hT28 (by decide +kernel)) (by decide +kernel)) H (fun r33 h33 hr33 hs33 H => ?_)
            have hT33 := vx_Tsh hT28 hs33
            replace H := H hT33
            refine vx_callI (i := .invokevirtual 157) (how := 3) (cm := 166) (np := 2) (q := 126) (args := [.ref 7, .int (vx_i r33)]) (rest := []) (by decide +kernel) rfl rfl rfl (vx_w2 (w := 2) (ml := 2) rfl (by decide +kernel)) (vx_rcv (kd := 3) (vx_Tk hT33 (by decide +kernel)) (by decide +kernel)) H (fun r34 h34 hr34 hs34 H => ?_)
            have hT34 := vx_Tsh hT33 hs34
            replace H := H hT34
            obtain ⟨k35, H⟩ := H
            refine vx_retZ (q := 127) (by decide +kernel) k35 ?_
            exact H
      · replace H := H.2 c5
        refine vx_aload_n (n := 0) (q := 80) (by decide +kernel) rfl ?_
        refine vx_getR (b := 17) (idx := 18) (kd := 3) (s := 2) (fin := true) (q := 83) (by decide +kernel) (vx_Tk hT2 (by decide +kernel)) (vx_Tr hT2 (kd := 3) (by decide +kernel) (by decide +kernel) (by decide +kernel)) ?_
        refine vx_iload_n (n := 1) (q := 84) (by decide +kernel) rfl ?_
        refine vx_aload_n (n := 0) (q := 85) (by decide +kernel) rfl ?_
        refine vx_getR (b := 2) (idx := 32) (kd := 3) (s := 0) (fin := true) (q := 88) (by decide +kernel) (vx_Tk hT2 (by decide +kernel)) (vx_Tr hT2 (kd := 3) (by decide +kernel) (by decide +kernel) (by decide +kernel)) ?_
        refine vx_getR (b := 6) (idx := 202) (kd := 2) (s := 3) (fin := true) (q := 91) (by decide +kernel) (vx_Tk hT2 (by decide +kernel)) (vx_Tr hT2 (kd := 2) (by decide +kernel) (by decide +kernel) (by decide +kernel)) ?_
        refine vx_aload_n (n := 0) (q := 92) (by decide +kernel) rfl ?_
        refine vx_getI (idx := 108) (kd := 3) (s := 9) (fin := false) (q := 95) (by decide +kernel) (vx_Tk hT2 (by decide +kernel)) ?_
        obtain ⟨k36, H⟩ := H
        refine vx_laload (z := 601) (q := 96) (by decide +kernel) (vx_Tk hT2 (by decide +kernel)) (vx_Tz hT2 (by decide +kernel)) (vx_ix k36 (by decide)) ?_
        obtain ⟨k37, H⟩ := H
        refine vx_lastore (z := 4) (q := 97) (by decide +kernel) (vx_Tk hT2 (by decide +kernel)) (vx_Tz hT2 (by decide +kernel)) (vx_ix k37 (by decide)) (fun h38 e38 => ?_)
        have hT38 := vx_TK hT2 e38
        replace H := H h38 e38 hT38
        refine vx_goto (off := 97) (q := 100) (t := 194) (by decide +kernel) ?_
        refine vx_aload_n (n := 0) (q := 195) (by decide +kernel) rfl ?_
        refine vx_dupR (q := 196) (by decide +kernel) ?_
        refine vx_getI (idx := 108) (kd := 3) (s := 9) (fin := false) (q := 199) (by decide +kernel) (vx_Tk hT38 (by decide +kernel)) ?_
        refine vx_iconst (n := 1) (q := 200) (by decide +kernel) ?_
        refine vx_iadd (q := 201) (by decide +kernel) ?_
        refine vx_putI (idx := 108) (kd := 3) (s := 9) (fin := false) (q := 204) (by decide +kernel) (vx_Tk hT38 (by decide +kernel)) (fun h39 e39 => ?_)
        have hT39 := vx_TJ hT38 e39
        replace H := H h39 e39 hT39
        refine vx_iconst (n := 1) (q := 205) (by decide +kernel) ?_
        refine vx_retZ (q := 206) (by decide +kernel) (Or.inr rfl) ?_
        exact H
    · replace H := H.2 c4
      refine vx_aload_n (n := 0) (q := 65) (by decide +kernel) rfl ?_
      refine vx_aload_n (n := 0) (q := 66) (by decide +kernel) rfl ?_
      refine vx_callI (i := .invokevirtual 126) (how := 3) (cm := 163) (np := 1) (q := 69) (args := [.ref 7]) (rest := [.ref 7]) (by decide +kernel) rfl rfl rfl (vx_w2 (w := 1) (ml := 1) rfl (by decide +kernel)) (vx_rcv (kd := 3) (vx_Tk hT2 (by decide +kernel)) (by decide +kernel)) H (fun r40 h40 hr40 hs40 H => ?_)
      have hT40 := vx_Tsh hT2 hs40
      replace H := H hT40
      refine vx_callI (i := .invokevirtual 157) (how := 3) (cm := 166) (np := 2) (q := 72) (args := [.ref 7, .int (vx_i r40)]) (rest := []) (by decide +kernel) rfl rfl rfl (vx_w2 (w := 2) (ml := 2) rfl (by decide +kernel)) (vx_rcv (kd := 3) (vx_Tk hT40 (by decide +kernel)) (by decide +kernel)) H (fun r41 h41 hr41 hs41 H => ?_)
      have hT41 := vx_Tsh hT40 hs41
      replace H := H hT41
      obtain ⟨k42, H⟩ := H
      refine vx_retZ (q := 73) (by decide +kernel) k42 ?_
      exact H
  · replace H := H.2 c3
    refine vx_aload_n (n := 0) (q := 20) (by decide +kernel) rfl ?_
    refine vx_getR (b := 17) (idx := 18) (kd := 3) (s := 2) (fin := true) (q := 23) (by decide +kernel) (vx_Tk hT2 (by decide +kernel)) (vx_Tr hT2 (kd := 3) (by decide +kernel) (by decide +kernel) (by decide +kernel)) ?_
    refine vx_iload_n (n := 1) (q := 24) (by decide +kernel) rfl ?_
    refine vx_iload_n (n := 3) (q := 25) (by decide +kernel) rfl ?_
    refine vx_if0_eq (off := 19) (q := 28) (t := 44) (by decide +kernel) hr1 (fun c43 => ?_) (fun c43 => ?_)
    · replace H := H.1 c43
      refine vx_aload_n (n := 0) (q := 45) (by decide +kernel) rfl ?_
      refine vx_getR (b := 2) (idx := 32) (kd := 3) (s := 0) (fin := true) (q := 48) (by decide +kernel) (vx_Tk hT2 (by decide +kernel)) (vx_Tr hT2 (kd := 3) (by decide +kernel) (by decide +kernel) (by decide +kernel)) ?_
      refine vx_getR (b := 6) (idx := 202) (kd := 2) (s := 3) (fin := true) (q := 51) (by decide +kernel) (vx_Tk hT2 (by decide +kernel)) (vx_Tr hT2 (kd := 2) (by decide +kernel) (by decide +kernel) (by decide +kernel)) ?_
      refine vx_aload_n (n := 0) (q := 52) (by decide +kernel) rfl ?_
      refine vx_getI (idx := 108) (kd := 3) (s := 9) (fin := false) (q := 55) (by decide +kernel) (vx_Tk hT2 (by decide +kernel)) ?_
      obtain ⟨k44, H⟩ := H
      refine vx_laload (z := 601) (q := 56) (by decide +kernel) (vx_Tk hT2 (by decide +kernel)) (vx_Tz hT2 (by decide +kernel)) (vx_ix k44 (by decide)) ?_
      obtain ⟨k45, H⟩ := H
      refine vx_lastore (z := 4) (q := 57) (by decide +kernel) (vx_Tk hT2 (by decide +kernel)) (vx_Tz hT2 (by decide +kernel)) (vx_ix k45 (by decide)) (fun h46 e46 => ?_)
      have hT46 := vx_TK hT2 e46
      replace H := H h46 e46 hT46
      refine vx_goto (off := 137) (q := 60) (t := 194) (by decide +kernel) ?_
      refine vx_aload_n (n := 0) (q := 195) (by decide +kernel) rfl ?_
      refine vx_dupR (q := 196) (by decide +kernel) ?_
      refine vx_getI (idx := 108) (kd := 3) (s := 9) (fin := false) (q := 199) (by decide +kernel) (vx_Tk hT46 (by decide +kernel)) ?_
      refine vx_iconst (n := 1) (q := 200) (by decide +kernel) ?_
      refine vx_iadd (q := 201) (by decide +kernel) ?_
      refine vx_putI (idx := 108) (kd := 3) (s := 9) (fin := false) (q := 204) (by decide +kernel) (vx_Tk hT46 (by decide +kernel)) (fun h47 e47 => ?_)
      have hT47 := vx_TJ hT46 e47
      replace H := H h47 e47 hT47
      refine vx_iconst (n := 1) (q := 205) (by decide +kernel) ?_
      refine vx_retZ (q := 206) (by decide +kernel) (Or.inr rfl) ?_
      exact H
    · replace H := H.2 c43
      refine vx_aload_n (n := 0) (q := 29) (by decide +kernel) rfl ?_
      refine vx_getR (b := 2) (idx := 32) (kd := 3) (s := 0) (fin := true) (q := 32) (by decide +kernel) (vx_Tk hT2 (by decide +kernel)) (vx_Tr hT2 (kd := 3) (by decide +kernel) (by decide +kernel) (by decide +kernel)) ?_
      refine vx_getR (b := 6) (idx := 202) (kd := 2) (s := 3) (fin := true) (q := 35) (by decide +kernel) (vx_Tk hT2 (by decide +kernel)) (vx_Tr hT2 (kd := 2) (by decide +kernel) (by decide +kernel) (by decide +kernel)) ?_
      refine vx_aload_n (n := 0) (q := 36) (by decide +kernel) rfl ?_
      refine vx_getI (idx := 108) (kd := 3) (s := 9) (fin := false) (q := 39) (by decide +kernel) (vx_Tk hT2 (by decide +kernel)) ?_
      obtain ⟨k48, H⟩ := H
      refine vx_laload (z := 601) (q := 40) (by decide +kernel) (vx_Tk hT2 (by decide +kernel)) (vx_Tz hT2 (by decide +kernel)) (vx_ix k48 (by decide)) ?_
      refine vx_lneg (q := 41) (by decide +kernel) ?_
      refine vx_goto (off := 15) (q := 44) (t := 56) (by decide +kernel) ?_
      obtain ⟨k49, H⟩ := H
      refine vx_lastore (z := 4) (q := 57) (by decide +kernel) (vx_Tk hT2 (by decide +kernel)) (vx_Tz hT2 (by decide +kernel)) (vx_ix k49 (by decide)) (fun h50 e50 => ?_)
      have hT50 := vx_TK hT2 e50
      replace H := H h50 e50 hT50
      refine vx_goto (off := 137) (q := 60) (t := 194) (by decide +kernel) ?_
      refine vx_aload_n (n := 0) (q := 195) (by decide +kernel) rfl ?_
      refine vx_dupR (q := 196) (by decide +kernel) ?_
      refine vx_getI (idx := 108) (kd := 3) (s := 9) (fin := false) (q := 199) (by decide +kernel) (vx_Tk hT50 (by decide +kernel)) ?_
      refine vx_iconst (n := 1) (q := 200) (by decide +kernel) ?_
      refine vx_iadd (q := 201) (by decide +kernel) ?_
      refine vx_putI (idx := 108) (kd := 3) (s := 9) (fin := false) (q := 204) (by decide +kernel) (vx_Tk hT50 (by decide +kernel)) (fun h51 e51 => ?_)
      have hT51 := vx_TJ hT50 e51
      replace H := H h51 e51 hT51
      refine vx_iconst (n := 1) (q := 205) (by decide +kernel) ?_
      refine vx_retZ (q := 206) (by decide +kernel) (Or.inr rfl) ?_
      exact H
-- RuleHouse$Reader.variableIndex()I
theorem vg_161 {d : Nat} {h : ve_H} {P : Int → ve_H → Prop}  (hT : vx_T 1 625 h) (H : vx_W d 161 2 [some (.ref 7), some (.int (vx_i 0))] [] h (vx_RI P)) : vx_CI d 161 [.ref 7] h P := by
  refine vx_enter (ml := 2) (by decide +kernel) ?_
  show vx_W _ _ 0 [some (.ref 7), none] [] h _
  refine vx_iconst (n := 0) (q := 1) (by decide +kernel) ?_
  refine vx_istore_n (n := 1) (q := 2) (lv' := [some (.ref 7), some (.int (vx_i 0))]) (by decide +kernel) rfl ?_
  exact H
theorem vg_161_2 {d : Nat} {h : ve_H} {P : Int → ve_H → Prop} {v1 : Int} (hT : vx_T 1 625 h) (H : (∃ b1, ve_R h 7 8 = some b1 ∧ vx_o 1 625 7 b1 ∧ (vx_rI v1) ∧ (((vx_J h b1 5) ≤ v1 → (((vx_J h b1 5) < 8 → (0 ≤ (vx_J h 7 9) ∧ (vx_J h 7 9) < 601) ∧ (0 ≤ (vx_J h b1 5) ∧ (vx_J h b1 5) < 8) ∧ (∀ h7, h7 = vx_sK h 19 (vx_J h b1 5).toNat (vx_K h 6 (vx_J h 7 9).toNat) → vx_T 1 625 h7 → (0 ≤ (vx_J h7 7 9) ∧ (vx_J h7 7 9) < 601) ∧ (0 ≤ (vx_J h7 b1 5) ∧ (vx_J h7 b1 5) < 8) ∧ (∀ h10, h10 = vx_sJ h7 20 (vx_J h7 b1 5).toNat (vx_J h7 5 (vx_J h7 7 9).toNat) → vx_T 1 625 h10 → (∀ h11, h11 = vx_sJ h10 b1 5 ((vx_J h10 b1 5) + 1) → vx_T 1 625 h11 → (vx_rI ((vx_J h11 b1 5) - 1)) ∧ P ((vx_J h11 b1 5) - 1) h11)))) ∧ (8 ≤ (vx_J h b1 5) → P ((-1)) h))) ∧ (v1 < (vx_J h b1 5) → (0 ≤ v1 ∧ v1 < 8) ∧ (0 ≤ (vx_J h 7 9) ∧ (vx_J h 7 9) < 601) ∧ (((vx_K h 19 v1.toNat) ≠ (vx_K h 6 (vx_J h 7 9).toNat) → vx_W d 161 2 [some (.ref 7), some (.int (vx_i (v1 + 1)))] [] h (vx_RI P)) ∧ ((vx_K h 19 v1.toNat) = (vx_K h 6 (vx_J h 7 9).toNat) → P v1 h)))))) : vx_W d 161 2 [some (.ref 7), some (.int (vx_i v1))] [] h (vx_RI P) := by
  refine vx_iload_n (n := 1) (q := 3) (by decide +kernel) rfl ?_
  refine vx_aload_n (n := 0) (q := 4) (by decide +kernel) rfl ?_
  obtain ⟨b1, eb1, ob1, H⟩ := H
  refine vx_getR (b := b1) (idx := 36) (kd := 3) (s := 8) (fin := false) (q := 7) (by decide +kernel) (vx_Tk hT (by decide +kernel)) eb1 ?_
  refine vx_getI (idx := 166) (kd := 7) (s := 5) (fin := false) (q := 10) (by decide +kernel) (vx_Tk hT ob1) ?_
  obtain ⟨k2, H⟩ := H
  refine vx_icmp_ge (off := 33) (q := 13) (t := 43) (by decide +kernel) k2 (vx_rI_J h b1 5) (fun c3 => ?_) (fun c3 => ?_)
  · replace H := H.1 c3
    refine vx_aload_n (n := 0) (q := 44) (by decide +kernel) rfl ?_
    refine vx_getR (b := b1) (idx := 36) (kd := 3) (s := 8) (fin := false) (q := 47) (by decide +kernel) (vx_Tk hT (by decide +kernel)) eb1 ?_
    refine vx_getI (idx := 166) (kd := 7) (s := 5) (fin := false) (q := 50) (by decide +kernel) (vx_Tk hT ob1) ?_
    refine vx_bipush (n := 8) (q := 52) (by decide +kernel) ?_
    refine vx_icmp_lt (off := 5) (q := 55) (t := 57) (by decide +kernel) (vx_rI_J h b1 5) (by decide) (fun c4 => ?_) (fun c4 => ?_)
    · replace H := H.1 c4
      refine vx_aload_n (n := 0) (q := 58) (by decide +kernel) rfl ?_
      refine vx_getR (b := 19) (idx := 25) (kd := 3) (s := 4) (fin := true) (q := 61) (by decide +kernel) (vx_Tk hT (by decide +kernel)) (vx_Tr hT (kd := 3) (by decide +kernel) (by decide +kernel) (by decide +kernel)) ?_
      refine vx_aload_n (n := 0) (q := 62) (by decide +kernel) rfl ?_
      refine vx_getR (b := b1) (idx := 36) (kd := 3) (s := 8) (fin := false) (q := 65) (by decide +kernel) (vx_Tk hT (by decide +kernel)) eb1 ?_
      refine vx_getI (idx := 166) (kd := 7) (s := 5) (fin := false) (q := 68) (by decide +kernel) (vx_Tk hT ob1) ?_
      refine vx_aload_n (n := 0) (q := 69) (by decide +kernel) rfl ?_
      refine vx_getR (b := 2) (idx := 32) (kd := 3) (s := 0) (fin := true) (q := 72) (by decide +kernel) (vx_Tk hT (by decide +kernel)) (vx_Tr hT (kd := 3) (by decide +kernel) (by decide +kernel) (by decide +kernel)) ?_
      refine vx_getR (b := 6) (idx := 202) (kd := 2) (s := 3) (fin := true) (q := 75) (by decide +kernel) (vx_Tk hT (by decide +kernel)) (vx_Tr hT (kd := 2) (by decide +kernel) (by decide +kernel) (by decide +kernel)) ?_
      refine vx_aload_n (n := 0) (q := 76) (by decide +kernel) rfl ?_
      refine vx_getI (idx := 108) (kd := 3) (s := 9) (fin := false) (q := 79) (by decide +kernel) (vx_Tk hT (by decide +kernel)) ?_
      obtain ⟨k5, H⟩ := H
      refine vx_laload (z := 601) (q := 80) (by decide +kernel) (vx_Tk hT (by decide +kernel)) (vx_Tz hT (by decide +kernel)) (vx_ix k5 (by decide)) ?_
      obtain ⟨k6, H⟩ := H
      refine vx_lastore (z := 8) (q := 81) (by decide +kernel) (vx_Tk hT (by decide +kernel)) (vx_Tz hT (by decide +kernel)) (vx_ix k6 (by decide)) (fun h7 e7 => ?_)
      have hT7 := vx_TK hT e7
      replace H := H h7 e7 hT7
      refine vx_aload_n (n := 0) (q := 82) (by decide +kernel) rfl ?_
      refine vx_getR (b := 20) (idx := 28) (kd := 3) (s := 5) (fin := true) (q := 85) (by decide +kernel) (vx_Tk hT7 (by decide +kernel)) (vx_Tr hT7 (kd := 3) (by decide +kernel) (by decide +kernel) (by decide +kernel)) ?_
      refine vx_aload_n (n := 0) (q := 86) (by decide +kernel) rfl ?_
      refine vx_getR (b := b1) (idx := 36) (kd := 3) (s := 8) (fin := false) (q := 89) (by decide +kernel) (vx_Tk hT7 (by decide +kernel)) (vx_RtK e7 eb1) ?_
      refine vx_getI (idx := 166) (kd := 7) (s := 5) (fin := false) (q := 92) (by decide +kernel) (vx_Tk hT7 ob1) ?_
      refine vx_aload_n (n := 0) (q := 93) (by decide +kernel) rfl ?_
      refine vx_getR (b := 2) (idx := 32) (kd := 3) (s := 0) (fin := true) (q := 96) (by decide +kernel) (vx_Tk hT7 (by decide +kernel)) (vx_Tr hT7 (kd := 3) (by decide +kernel) (by decide +kernel) (by decide +kernel)) ?_
      refine vx_getR (b := 5) (idx := 234) (kd := 2) (s := 2) (fin := true) (q := 99) (by decide +kernel) (vx_Tk hT7 (by decide +kernel)) (vx_Tr hT7 (kd := 2) (by decide +kernel) (by decide +kernel) (by decide +kernel)) ?_
      refine vx_aload_n (n := 0) (q := 100) (by decide +kernel) rfl ?_
      refine vx_getI (idx := 108) (kd := 3) (s := 9) (fin := false) (q := 103) (by decide +kernel) (vx_Tk hT7 (by decide +kernel)) ?_
      obtain ⟨k8, H⟩ := H
      refine vx_iaload (z := 601) (q := 104) (by decide +kernel) (vx_Tk hT7 (by decide +kernel)) (vx_Tz hT7 (by decide +kernel)) (vx_ix k8 (by decide)) ?_
      obtain ⟨k9, H⟩ := H
      refine vx_iastore (z := 8) (q := 105) (by decide +kernel) (vx_Tk hT7 (by decide +kernel)) (vx_Tz hT7 (by decide +kernel)) (vx_ix k9 (by decide)) (fun h10 e10 => ?_)
      have hT10 := vx_TJ hT7 e10
      replace H := H h10 e10 hT10
      refine vx_aload_n (n := 0) (q := 106) (by decide +kernel) rfl ?_
      refine vx_getR (b := b1) (idx := 36) (kd := 3) (s := 8) (fin := false) (q := 109) (by decide +kernel) (vx_Tk hT10 (by decide +kernel)) (vx_RtJ e10 (vx_RtK e7 eb1)) ?_
      refine vx_dupR (q := 110) (by decide +kernel) ?_
      refine vx_getI (idx := 166) (kd := 7) (s := 5) (fin := false) (q := 113) (by decide +kernel) (vx_Tk hT10 ob1) ?_
      refine vx_iconst (n := 1) (q := 114) (by decide +kernel) ?_
      refine vx_iadd (q := 115) (by decide +kernel) ?_
      refine vx_putI (idx := 166) (kd := 7) (s := 5) (fin := false) (q := 118) (by decide +kernel) (vx_Tk hT10 ob1) (fun h11 e11 => ?_)
      have hT11 := vx_TJ hT10 e11
      replace H := H h11 e11 hT11
      refine vx_aload_n (n := 0) (q := 119) (by decide +kernel) rfl ?_
      refine vx_getR (b := b1) (idx := 36) (kd := 3) (s := 8) (fin := false) (q := 122) (by decide +kernel) (vx_Tk hT11 (by decide +kernel)) (vx_RtJ e11 (vx_RtJ e10 (vx_RtK e7 eb1))) ?_
      refine vx_getI (idx := 166) (kd := 7) (s := 5) (fin := false) (q := 125) (by decide +kernel) (vx_Tk hT11 ob1) ?_
      refine vx_iconst (n := 1) (q := 126) (by decide +kernel) ?_
      refine vx_isub (q := 127) (by decide +kernel) ?_
      obtain ⟨k12, H⟩ := H
      refine vx_retI (q := 128) (by decide +kernel) k12 ?_
      exact H
    · replace H := H.2 c4
      refine vx_iconst (n := (-1)) (q := 56) (by decide +kernel) ?_
      refine vx_retI (q := 57) (by decide +kernel) (by decide) ?_
      exact H
  · replace H := H.2 c3
    refine vx_aload_n (n := 0) (q := 14) (by decide +kernel) rfl ?_
    refine vx_getR (b := 19) (idx := 25) (kd := 3) (s := 4) (fin := true) (q := 17) (by decide +kernel) (vx_Tk hT (by decide +kernel)) (vx_Tr hT (kd := 3) (by decide +kernel) (by decide +kernel) (by decide +kernel)) ?_
    refine vx_iload_n (n := 1) (q := 18) (by decide +kernel) rfl ?_
    obtain ⟨k13, H⟩ := H
    refine vx_laload (z := 8) (q := 19) (by decide +kernel) (vx_Tk hT (by decide +kernel)) (vx_Tz hT (by decide +kernel)) (vx_ix k13 (by decide)) ?_
    refine vx_aload_n (n := 0) (q := 20) (by decide +kernel) rfl ?_
    refine vx_getR (b := 2) (idx := 32) (kd := 3) (s := 0) (fin := true) (q := 23) (by decide +kernel) (vx_Tk hT (by decide +kernel)) (vx_Tr hT (kd := 3) (by decide +kernel) (by decide +kernel) (by decide +kernel)) ?_
    refine vx_getR (b := 6) (idx := 202) (kd := 2) (s := 3) (fin := true) (q := 26) (by decide +kernel) (vx_Tk hT (by decide +kernel)) (vx_Tr hT (kd := 2) (by decide +kernel) (by decide +kernel) (by decide +kernel)) ?_
    refine vx_aload_n (n := 0) (q := 27) (by decide +kernel) rfl ?_
    refine vx_getI (idx := 108) (kd := 3) (s := 9) (fin := false) (q := 30) (by decide +kernel) (vx_Tk hT (by decide +kernel)) ?_
    obtain ⟨k14, H⟩ := H
    refine vx_laload (z := 601) (q := 31) (by decide +kernel) (vx_Tk hT (by decide +kernel)) (vx_Tz hT (by decide +kernel)) (vx_ix k14 (by decide)) ?_
    refine vx_lc_ne (off := 5) (p := 32) (q := 35) (t := 37) (by decide +kernel) (vx_rL_K h 19 v1.toNat) (vx_rL_K h 6 (vx_J h 7 9).toNat) (fun c15 => ?_) (fun c15 => ?_)
    · replace H := H.1 c15
      refine vx_iinc (n := 1) (m := 1) (x := v1) (q := 40) (lv' := [some (.ref 7), some (.int (vx_i (v1 + 1)))]) (by decide +kernel) rfl rfl ?_
      refine vx_goto (off := (-38)) (q := 43) (t := 2) (by decide +kernel) ?_
      exact H
    · replace H := H.2 c15
      refine vx_iload_n (n := 1) (q := 36) (by decide +kernel) rfl ?_
      refine vx_retI (q := 37) (by decide +kernel) k2 ?_
      exact H
-- RuleHouse$Reader.kind()I
theorem vg_162 {d : Nat} {h : ve_H} {P : Int → ve_H → Prop}  (hT : vx_T 1 625 h) (H : (0 ≤ (vx_J h 7 9) ∧ (vx_J h 7 9) < 601) ∧ P (vx_J h 4 (vx_J h 7 9).toNat) h) : vx_CI d 162 [.ref 7] h P := by
  refine vx_enter (ml := 1) (by decide +kernel) ?_
  show vx_W _ _ 0 [some (.ref 7)] [] h _
  refine vx_aload_n (n := 0) (q := 1) (by decide +kernel) rfl ?_
  refine vx_getR (b := 2) (idx := 32) (kd := 3) (s := 0) (fin := true) (q := 4) (by decide +kernel) (vx_Tk hT (by decide +kernel)) (vx_Tr hT (kd := 3) (by decide +kernel) (by decide +kernel) (by decide +kernel)) ?_
  refine vx_getR (b := 4) (idx := 178) (kd := 2) (s := 1) (fin := true) (q := 7) (by decide +kernel) (vx_Tk hT (by decide +kernel)) (vx_Tr hT (kd := 2) (by decide +kernel) (by decide +kernel) (by decide +kernel)) ?_
  refine vx_aload_n (n := 0) (q := 8) (by decide +kernel) rfl ?_
  refine vx_getI (idx := 108) (kd := 3) (s := 9) (fin := false) (q := 11) (by decide +kernel) (vx_Tk hT (by decide +kernel)) ?_
  obtain ⟨k1, H⟩ := H
  refine vx_iaload (z := 601) (q := 12) (by decide +kernel) (vx_Tk hT (by decide +kernel)) (vx_Tz hT (by decide +kernel)) (vx_ix k1 (by decide)) ?_
  refine vx_retI (q := 13) (by decide +kernel) (vx_rI_J h 4 (vx_J h 7 9).toNat) ?_
  exact H
-- RuleHouse$Reader.place()I
theorem vg_163 {d : Nat} {h : ve_H} {P : Int → ve_H → Prop}  (hT : vx_T 1 625 h) (H : (0 ≤ (vx_J h 7 9) ∧ (vx_J h 7 9) < 601) ∧ P (vx_J h 5 (vx_J h 7 9).toNat) h) : vx_CI d 163 [.ref 7] h P := by
  refine vx_enter (ml := 1) (by decide +kernel) ?_
  show vx_W _ _ 0 [some (.ref 7)] [] h _
  refine vx_aload_n (n := 0) (q := 1) (by decide +kernel) rfl ?_
  refine vx_getR (b := 2) (idx := 32) (kd := 3) (s := 0) (fin := true) (q := 4) (by decide +kernel) (vx_Tk hT (by decide +kernel)) (vx_Tr hT (kd := 3) (by decide +kernel) (by decide +kernel) (by decide +kernel)) ?_
  refine vx_getR (b := 5) (idx := 234) (kd := 2) (s := 2) (fin := true) (q := 7) (by decide +kernel) (vx_Tk hT (by decide +kernel)) (vx_Tr hT (kd := 2) (by decide +kernel) (by decide +kernel) (by decide +kernel)) ?_
  refine vx_aload_n (n := 0) (q := 8) (by decide +kernel) rfl ?_
  refine vx_getI (idx := 108) (kd := 3) (s := 9) (fin := false) (q := 11) (by decide +kernel) (vx_Tk hT (by decide +kernel)) ?_
  obtain ⟨k1, H⟩ := H
  refine vx_iaload (z := 601) (q := 12) (by decide +kernel) (vx_Tk hT (by decide +kernel)) (vx_Tz hT (by decide +kernel)) (vx_ix k1 (by decide)) ?_
  refine vx_retI (q := 13) (by decide +kernel) (vx_rI_J h 5 (vx_J h 7 9).toNat) ?_
  exact H
-- RuleHouse$Reader.accept(I)Z
theorem vg_164 {d : Nat} {h : ve_H} {P : Int → ve_H → Prop} {x1 : Int} (hT : vx_T 1 625 h) (H : (0 ≤ (vx_J h 7 9) ∧ (vx_J h 7 9) < 601) ∧ (vx_rI x1) ∧ (((vx_J h 4 (vx_J h 7 9).toNat) = x1 → (∀ h4, h4 = vx_sJ h 7 9 ((vx_J h 7 9) + 1) → vx_T 1 625 h4 → P 1 h4)) ∧ ((vx_J h 4 (vx_J h 7 9).toNat) ≠ x1 → P 0 h))) : vx_CI d 164 [.ref 7, .int (vx_i x1)] h P := by
  refine vx_enter (ml := 2) (by decide +kernel) ?_
  show vx_W _ _ 0 [some (.ref 7), some (.int (vx_i x1))] [] h _
  refine vx_aload_n (n := 0) (q := 1) (by decide +kernel) rfl ?_
  refine vx_getR (b := 2) (idx := 32) (kd := 3) (s := 0) (fin := true) (q := 4) (by decide +kernel) (vx_Tk hT (by decide +kernel)) (vx_Tr hT (kd := 3) (by decide +kernel) (by decide +kernel) (by decide +kernel)) ?_
  refine vx_getR (b := 4) (idx := 178) (kd := 2) (s := 1) (fin := true) (q := 7) (by decide +kernel) (vx_Tk hT (by decide +kernel)) (vx_Tr hT (kd := 2) (by decide +kernel) (by decide +kernel) (by decide +kernel)) ?_
  refine vx_aload_n (n := 0) (q := 8) (by decide +kernel) rfl ?_
  refine vx_getI (idx := 108) (kd := 3) (s := 9) (fin := false) (q := 11) (by decide +kernel) (vx_Tk hT (by decide +kernel)) ?_
  obtain ⟨k1, H⟩ := H
  refine vx_iaload (z := 601) (q := 12) (by decide +kernel) (vx_Tk hT (by decide +kernel)) (vx_Tz hT (by decide +kernel)) (vx_ix k1 (by decide)) ?_
  refine vx_iload_n (n := 1) (q := 13) (by decide +kernel) rfl ?_
  obtain ⟨k2, H⟩ := H
  refine vx_icmp_eq (off := 5) (q := 16) (t := 18) (by decide +kernel) (vx_rI_J h 4 (vx_J h 7 9).toNat) k2 (fun c3 => ?_) (fun c3 => ?_)
  · replace H := H.1 c3
    refine vx_aload_n (n := 0) (q := 19) (by decide +kernel) rfl ?_
    refine vx_dupR (q := 20) (by decide +kernel) ?_
    refine vx_getI (idx := 108) (kd := 3) (s := 9) (fin := false) (q := 23) (by decide +kernel) (vx_Tk hT (by decide +kernel)) ?_
    refine vx_iconst (n := 1) (q := 24) (by decide +kernel) ?_
    refine vx_iadd (q := 25) (by decide +kernel) ?_
    refine vx_putI (idx := 108) (kd := 3) (s := 9) (fin := false) (q := 28) (by decide +kernel) (vx_Tk hT (by decide +kernel)) (fun h4 e4 => ?_)
    have hT4 := vx_TJ hT e4
    replace H := H h4 e4 hT4
    refine vx_iconst (n := 1) (q := 29) (by decide +kernel) ?_
    refine vx_retZ (q := 30) (by decide +kernel) (Or.inr rfl) ?_
    exact H
  · replace H := H.2 c3
    refine vx_iconst (n := 0) (q := 17) (by decide +kernel) ?_
    refine vx_retZ (q := 18) (by decide +kernel) (Or.inl rfl) ?_
    exact H
-- RuleHouse$Reader.expect(I)Z
theorem vg_165 {d : Nat} {h : ve_H} {P : Int → ve_H → Prop} {x1 : Int} (hT : vx_T 1 625 h) (H : vx_CI d 164 [.ref 7, .int (vx_i x1)] h (fun r1 h1 => vx_T 1 625 h1 → ((r1 ≠ 0 → P 1 h1) ∧ (r1 = 0 → (0 ≤ (vx_J h1 7 9) ∧ (vx_J h1 7 9) < 601) ∧ vx_CI d 166 [.ref 7, .int (vx_i (vx_J h1 5 (vx_J h1 7 9).toNat))] h1 (fun r4 h4 => vx_T 1 625 h4 → ((r4 = 0 → P 0 h4) ∧ (r4 ≠ 0 → P 1 h4))))))) : vx_CI (d + 1) 165 [.ref 7, .int (vx_i x1)] h P := by
  refine vx_enter (ml := 2) (by decide +kernel) ?_
  show vx_W _ _ 0 [some (.ref 7), some (.int (vx_i x1))] [] h _
  refine vx_aload_n (n := 0) (q := 1) (by decide +kernel) rfl ?_
  refine vx_iload_n (n := 1) (q := 2) (by decide +kernel) rfl ?_
  refine vx_callI (i := .invokevirtual 144) (how := 3) (cm := 164) (np := 2) (q := 5) (args := [.ref 7, .int (vx_i x1)]) (rest := []) (by decide +kernel) rfl rfl rfl (vx_w2 (w := 2) (ml := 2) rfl (by decide +kernel)) (vx_rcv (kd := 3) (vx_Tk hT (by decide +kernel)) (by decide +kernel)) H (fun r1 h1 hr1 hs1 H => ?_)
  have hT1 := vx_Tsh hT hs1
  replace H := H hT1
  refine vx_if0_ne (off := 22) (q := 8) (t := 27) (by decide +kernel) hr1 (fun c2 => ?_) (fun c2 => ?_)
  · replace H := H.1 c2
    refine vx_iconst (n := 1) (q := 28) (by decide +kernel) ?_
    refine vx_goto (off := 4) (q := 31) (t := 32) (by decide +kernel) ?_
    refine vx_retZ (q := 33) (by decide +kernel) (Or.inr rfl) ?_
    exact H
  · replace H := H.2 c2
    refine vx_aload_n (n := 0) (q := 9) (by decide +kernel) rfl ?_
    refine vx_aload_n (n := 0) (q := 10) (by decide +kernel) rfl ?_
    refine vx_getR (b := 2) (idx := 32) (kd := 3) (s := 0) (fin := true) (q := 13) (by decide +kernel) (vx_Tk hT1 (by decide +kernel)) (vx_Tr hT1 (kd := 3) (by decide +kernel) (by decide +kernel) (by decide +kernel)) ?_
    refine vx_getR (b := 5) (idx := 234) (kd := 2) (s := 2) (fin := true) (q := 16) (by decide +kernel) (vx_Tk hT1 (by decide +kernel)) (vx_Tr hT1 (kd := 2) (by decide +kernel) (by decide +kernel) (by decide +kernel)) ?_
    refine vx_aload_n (n := 0) (q := 17) (by decide +kernel) rfl ?_
    refine vx_getI (idx := 108) (kd := 3) (s := 9) (fin := false) (q := 20) (by decide +kernel) (vx_Tk hT1 (by decide +kernel)) ?_
    obtain ⟨k3, H⟩ := H
    refine vx_iaload (z := 601) (q := 21) (by decide +kernel) (vx_Tk hT1 (by decide +kernel)) (vx_Tz hT1 (by decide +kernel)) (vx_ix k3 (by decide)) ?_
    refine vx_callI (i := .invokevirtual 157) (how := 3) (cm := 166) (np := 2) (q := 24) (args := [.ref 7, .int (vx_i (vx_J h1 5 (vx_J h1 7 9).toNat))]) (rest := []) (by decide +kernel) rfl rfl rfl (vx_w2 (w := 2) (ml := 2) rfl (by decide +kernel)) (vx_rcv (kd := 3) (vx_Tk hT1 (by decide +kernel)) (by decide +kernel)) H (fun r4 h4 hr4 hs4 H => ?_)
    have hT4 := vx_Tsh hT1 hs4
    replace H := H hT4
    refine vx_if0_eq (off := 7) (q := 27) (t := 31) (by decide +kernel) hr4 (fun c5 => ?_) (fun c5 => ?_)
    · replace H := H.1 c5
      refine vx_iconst (n := 0) (q := 32) (by decide +kernel) ?_
      refine vx_retZ (q := 33) (by decide +kernel) (Or.inl rfl) ?_
      exact H
    · replace H := H.2 c5
      refine vx_iconst (n := 1) (q := 28) (by decide +kernel) ?_
      refine vx_goto (off := 4) (q := 31) (t := 32) (by decide +kernel) ?_
      refine vx_retZ (q := 33) (by decide +kernel) (Or.inr rfl) ?_
      exact H
-- RuleHouse$Reader.refuse(I)Z
theorem vg_166 {d : Nat} {h : ve_H} {P : Int → ve_H → Prop} {x1 : Int} (hT : vx_T 1 625 h) (H : (∀ h1, h1 = vx_sJ h 7 11 1 → vx_T 1 625 h1 → (∀ h2, h2 = vx_sJ h1 7 12 x1 → vx_T 1 625 h2 → P 0 h2))) : vx_CI d 166 [.ref 7, .int (vx_i x1)] h P := by
  refine vx_enter (ml := 2) (by decide +kernel) ?_
  show vx_W _ _ 0 [some (.ref 7), some (.int (vx_i x1))] [] h _
  refine vx_aload_n (n := 0) (q := 1) (by decide +kernel) rfl ?_
  refine vx_iconst (n := 1) (q := 2) (by decide +kernel) ?_
  refine vx_putI (idx := 56) (kd := 3) (s := 11) (fin := false) (q := 5) (by decide +kernel) (vx_Tk hT (by decide +kernel)) (fun h1 e1 => ?_)
  have hT1 := vx_TJ hT e1
  replace H := H h1 e1 hT1
  refine vx_aload_n (n := 0) (q := 6) (by decide +kernel) rfl ?_
  refine vx_iload_n (n := 1) (q := 7) (by decide +kernel) rfl ?_
  refine vx_putI (idx := 111) (kd := 3) (s := 12) (fin := false) (q := 10) (by decide +kernel) (vx_Tk hT1 (by decide +kernel)) (fun h2 e2 => ?_)
  have hT2 := vx_TJ hT1 e2
  replace H := H h2 e2 hT2
  refine vx_iconst (n := 0) (q := 11) (by decide +kernel) ?_
  refine vx_retZ (q := 12) (by decide +kernel) (Or.inl rfl) ?_
  exact H
-- RuleHouse$Reader.note(II)V
theorem vg_167 {d : Nat} {h : ve_H} {P : ve_H → Prop} {x1 : Int} {x2 : Int} (hT : vx_T 1 625 h) (H : (((vx_J h 7 11) = 0 → (∀ h2, h2 = vx_sJ h 7 11 x1 → vx_T 1 625 h2 → (∀ h3, h3 = vx_sJ h2 7 12 x2 → vx_T 1 625 h3 → P h3))) ∧ ((vx_J h 7 11) ≠ 0 → (vx_rI x2) ∧ (((vx_J h 7 12) ≤ x2 → P h) ∧ (x2 < (vx_J h 7 12) → (∀ h6, h6 = vx_sJ h 7 11 x1 → vx_T 1 625 h6 → (∀ h7, h7 = vx_sJ h6 7 12 x2 → vx_T 1 625 h7 → P h7))))))) : vx_CV d 167 [.ref 7, .int (vx_i x1), .int (vx_i x2)] h P := by
  refine vx_enter (ml := 3) (by decide +kernel) ?_
  show vx_W _ _ 0 [some (.ref 7), some (.int (vx_i x1)), some (.int (vx_i x2))] [] h _
  refine vx_aload_n (n := 0) (q := 1) (by decide +kernel) rfl ?_
  refine vx_getI (idx := 56) (kd := 3) (s := 11) (fin := false) (q := 4) (by decide +kernel) (vx_Tk hT (by decide +kernel)) ?_
  refine vx_if0_eq (off := 11) (q := 7) (t := 15) (by decide +kernel) (vx_rI_J h 7 11) (fun c1 => ?_) (fun c1 => ?_)
  · replace H := H.1 c1
    refine vx_aload_n (n := 0) (q := 16) (by decide +kernel) rfl ?_
    refine vx_iload_n (n := 1) (q := 17) (by decide +kernel) rfl ?_
    refine vx_putI (idx := 56) (kd := 3) (s := 11) (fin := false) (q := 20) (by decide +kernel) (vx_Tk hT (by decide +kernel)) (fun h2 e2 => ?_)
    have hT2 := vx_TJ hT e2
    replace H := H h2 e2 hT2
    refine vx_aload_n (n := 0) (q := 21) (by decide +kernel) rfl ?_
    refine vx_iload_n (n := 2) (q := 22) (by decide +kernel) rfl ?_
    refine vx_putI (idx := 111) (kd := 3) (s := 12) (fin := false) (q := 25) (by decide +kernel) (vx_Tk hT2 (by decide +kernel)) (fun h3 e3 => ?_)
    have hT3 := vx_TJ hT2 e3
    replace H := H h3 e3 hT3
    refine vx_retV (q := 26) (by decide +kernel) ?_
    exact H
  · replace H := H.2 c1
    refine vx_iload_n (n := 2) (q := 8) (by decide +kernel) rfl ?_
    refine vx_aload_n (n := 0) (q := 9) (by decide +kernel) rfl ?_
    refine vx_getI (idx := 111) (kd := 3) (s := 12) (fin := false) (q := 12) (by decide +kernel) (vx_Tk hT (by decide +kernel)) ?_
    obtain ⟨k4, H⟩ := H
    refine vx_icmp_ge (off := 13) (q := 15) (t := 25) (by decide +kernel) k4 (vx_rI_J h 7 12) (fun c5 => ?_) (fun c5 => ?_)
    · replace H := H.1 c5
      refine vx_retV (q := 26) (by decide +kernel) ?_
      exact H
    · replace H := H.2 c5
      refine vx_aload_n (n := 0) (q := 16) (by decide +kernel) rfl ?_
      refine vx_iload_n (n := 1) (q := 17) (by decide +kernel) rfl ?_
      refine vx_putI (idx := 56) (kd := 3) (s := 11) (fin := false) (q := 20) (by decide +kernel) (vx_Tk hT (by decide +kernel)) (fun h6 e6 => ?_)
      have hT6 := vx_TJ hT e6
      replace H := H h6 e6 hT6
      refine vx_aload_n (n := 0) (q := 21) (by decide +kernel) rfl ?_
      refine vx_iload_n (n := 2) (q := 22) (by decide +kernel) rfl ?_
      refine vx_putI (idx := 111) (kd := 3) (s := 12) (fin := false) (q := 25) (by decide +kernel) (vx_Tk hT6 (by decide +kernel)) (fun h7 e7 => ?_)
      have hT7 := vx_TJ hT6 e7
      replace H := H h7 e7 hT7
      refine vx_retV (q := 26) (by decide +kernel) ?_
      exact H
-- RuleHouse$Reader.isTotal(I)Z
theorem vg_168 {d : Nat} {h : ve_H} {P : Int → ve_H → Prop} {x1 : Int} (hT : vx_T 1 625 h) (H : (vx_rI x1) ∧ ((x1 < 6 → P 0 h) ∧ (6 ≤ x1 → ((9 < x1 → P 0 h) ∧ (x1 ≤ 9 → P 1 h))))) : vx_CI d 168 [.int (vx_i x1)] h P := by
  refine vx_enter (ml := 1) (by decide +kernel) ?_
  show vx_W _ _ 0 [some (.int (vx_i x1))] [] h _
  refine vx_iload_n (n := 0) (q := 1) (by decide +kernel) rfl ?_
  refine vx_bipush (n := 6) (q := 3) (by decide +kernel) ?_
  obtain ⟨k1, H⟩ := H
  refine vx_icmp_lt (off := 13) (q := 6) (t := 16) (by decide +kernel) k1 (by decide) (fun c2 => ?_) (fun c2 => ?_)
  · replace H := H.1 c2
    refine vx_iconst (n := 0) (q := 17) (by decide +kernel) ?_
    refine vx_retZ (q := 18) (by decide +kernel) (Or.inl rfl) ?_
    exact H
  · replace H := H.2 c2
    refine vx_iload_n (n := 0) (q := 7) (by decide +kernel) rfl ?_
    refine vx_bipush (n := 9) (q := 9) (by decide +kernel) ?_
    refine vx_icmp_gt (off := 7) (q := 12) (t := 16) (by decide +kernel) k1 (by decide) (fun c3 => ?_) (fun c3 => ?_)
    · replace H := H.1 c3
      refine vx_iconst (n := 0) (q := 17) (by decide +kernel) ?_
      refine vx_retZ (q := 18) (by decide +kernel) (Or.inl rfl) ?_
      exact H
    · replace H := H.2 c3
      refine vx_iconst (n := 1) (q := 13) (by decide +kernel) ?_
      refine vx_goto (off := 4) (q := 16) (t := 17) (by decide +kernel) ?_
      refine vx_retZ (q := 18) (by decide +kernel) (Or.inr rfl) ?_
      exact H
-- RuleHouse$Reader.isRelation(I)Z
theorem vg_169 {d : Nat} {h : ve_H} {P : Int → ve_H → Prop} {x1 : Int} (hT : vx_T 1 625 h) (H : (vx_rI x1) ∧ ((x1 = 61 → P 1 h) ∧ (x1 ≠ 61 → ((x1 = 11 → P 1 h) ∧ (x1 ≠ 11 → ((x1 = 60 → P 1 h) ∧ (x1 ≠ 60 → ((x1 = 12 → P 1 h) ∧ (x1 ≠ 12 → ((x1 = 62 → P 1 h) ∧ (x1 ≠ 62 → ((x1 ≠ 13 → P 0 h) ∧ (x1 = 13 → P 1 h))))))))))))) : vx_CI d 169 [.int (vx_i x1)] h P := by
  refine vx_enter (ml := 1) (by decide +kernel) ?_
  show vx_W _ _ 0 [some (.int (vx_i x1))] [] h _
  refine vx_iload_n (n := 0) (q := 1) (by decide +kernel) rfl ?_
  refine vx_bipush (n := 61) (q := 3) (by decide +kernel) ?_
  obtain ⟨k1, H⟩ := H
  refine vx_icmp_eq (off := 33) (q := 6) (t := 36) (by decide +kernel) k1 (by decide) (fun c2 => ?_) (fun c2 => ?_)
  · replace H := H.1 c2
    refine vx_iconst (n := 1) (q := 37) (by decide +kernel) ?_
    refine vx_goto (off := 4) (q := 40) (t := 41) (by decide +kernel) ?_
    refine vx_retZ (q := 42) (by decide +kernel) (Or.inr rfl) ?_
    exact H
  · replace H := H.2 c2
    refine vx_iload_n (n := 0) (q := 7) (by decide +kernel) rfl ?_
    refine vx_bipush (n := 11) (q := 9) (by decide +kernel) ?_
    refine vx_icmp_eq (off := 27) (q := 12) (t := 36) (by decide +kernel) k1 (by decide) (fun c3 => ?_) (fun c3 => ?_)
    · replace H := H.1 c3
      refine vx_iconst (n := 1) (q := 37) (by decide +kernel) ?_
      refine vx_goto (off := 4) (q := 40) (t := 41) (by decide +kernel) ?_
      refine vx_retZ (q := 42) (by decide +kernel) (Or.inr rfl) ?_
      exact H
    · replace H := H.2 c3
      refine vx_iload_n (n := 0) (q := 13) (by decide +kernel) rfl ?_
      refine vx_bipush (n := 60) (q := 15) (by decide +kernel) ?_
      refine vx_icmp_eq (off := 21) (q := 18) (t := 36) (by decide +kernel) k1 (by decide) (fun c4 => ?_) (fun c4 => ?_)
      · replace H := H.1 c4
        refine vx_iconst (n := 1) (q := 37) (by decide +kernel) ?_
        refine vx_goto (off := 4) (q := 40) (t := 41) (by decide +kernel) ?_
        refine vx_retZ (q := 42) (by decide +kernel) (Or.inr rfl) ?_
        exact H
      · replace H := H.2 c4
        refine vx_iload_n (n := 0) (q := 19) (by decide +kernel) rfl ?_
        refine vx_bipush (n := 12) (q := 21) (by decide +kernel) ?_
        refine vx_icmp_eq (off := 15) (q := 24) (t := 36) (by decide +kernel) k1 (by decide) (fun c5 => ?_) (fun c5 => ?_)
        · replace H := H.1 c5
          refine vx_iconst (n := 1) (q := 37) (by decide +kernel) ?_
          refine vx_goto (off := 4) (q := 40) (t := 41) (by decide +kernel) ?_
          refine vx_retZ (q := 42) (by decide +kernel) (Or.inr rfl) ?_
          exact H
        · replace H := H.2 c5
          refine vx_iload_n (n := 0) (q := 25) (by decide +kernel) rfl ?_
          refine vx_bipush (n := 62) (q := 27) (by decide +kernel) ?_
          refine vx_icmp_eq (off := 9) (q := 30) (t := 36) (by decide +kernel) k1 (by decide) (fun c6 => ?_) (fun c6 => ?_)
          · replace H := H.1 c6
            refine vx_iconst (n := 1) (q := 37) (by decide +kernel) ?_
            refine vx_goto (off := 4) (q := 40) (t := 41) (by decide +kernel) ?_
            refine vx_retZ (q := 42) (by decide +kernel) (Or.inr rfl) ?_
            exact H
          · replace H := H.2 c6
            refine vx_iload_n (n := 0) (q := 31) (by decide +kernel) rfl ?_
            refine vx_bipush (n := 13) (q := 33) (by decide +kernel) ?_
            refine vx_icmp_ne (off := 7) (q := 36) (t := 40) (by decide +kernel) k1 (by decide) (fun c7 => ?_) (fun c7 => ?_)
            · replace H := H.1 c7
              refine vx_iconst (n := 0) (q := 41) (by decide +kernel) ?_
              refine vx_retZ (q := 42) (by decide +kernel) (Or.inl rfl) ?_
              exact H
            · replace H := H.2 c7
              refine vx_iconst (n := 1) (q := 37) (by decide +kernel) ?_
              refine vx_goto (off := 4) (q := 40) (t := 41) (by decide +kernel) ?_
              refine vx_retZ (q := 42) (by decide +kernel) (Or.inr rfl) ?_
              exact H
-- RuleHouse$Reader.isOperation(I)Z
theorem vg_170 {d : Nat} {h : ve_H} {P : Int → ve_H → Prop} {x1 : Int} (hT : vx_T 1 625 h) (H : (vx_rI x1) ∧ ((x1 = 43 → P 1 h) ∧ (x1 ≠ 43 → ((x1 = 45 → P 1 h) ∧ (x1 ≠ 45 → ((x1 = 42 → P 1 h) ∧ (x1 ≠ 42 → ((x1 = 47 → P 1 h) ∧ (x1 ≠ 47 → ((x1 ≠ 37 → P 0 h) ∧ (x1 = 37 → P 1 h))))))))))) : vx_CI d 170 [.int (vx_i x1)] h P := by
  refine vx_enter (ml := 1) (by decide +kernel) ?_
  show vx_W _ _ 0 [some (.int (vx_i x1))] [] h _
  refine vx_iload_n (n := 0) (q := 1) (by decide +kernel) rfl ?_
  refine vx_bipush (n := 43) (q := 3) (by decide +kernel) ?_
  obtain ⟨k1, H⟩ := H
  refine vx_icmp_eq (off := 27) (q := 6) (t := 30) (by decide +kernel) k1 (by decide) (fun c2 => ?_) (fun c2 => ?_)
  · replace H := H.1 c2
    refine vx_iconst (n := 1) (q := 31) (by decide +kernel) ?_
    refine vx_goto (off := 4) (q := 34) (t := 35) (by decide +kernel) ?_
    refine vx_retZ (q := 36) (by decide +kernel) (Or.inr rfl) ?_
    exact H
  · replace H := H.2 c2
    refine vx_iload_n (n := 0) (q := 7) (by decide +kernel) rfl ?_
    refine vx_bipush (n := 45) (q := 9) (by decide +kernel) ?_
    refine vx_icmp_eq (off := 21) (q := 12) (t := 30) (by decide +kernel) k1 (by decide) (fun c3 => ?_) (fun c3 => ?_)
    · replace H := H.1 c3
      refine vx_iconst (n := 1) (q := 31) (by decide +kernel) ?_
      refine vx_goto (off := 4) (q := 34) (t := 35) (by decide +kernel) ?_
      refine vx_retZ (q := 36) (by decide +kernel) (Or.inr rfl) ?_
      exact H
    · replace H := H.2 c3
      refine vx_iload_n (n := 0) (q := 13) (by decide +kernel) rfl ?_
      refine vx_bipush (n := 42) (q := 15) (by decide +kernel) ?_
      refine vx_icmp_eq (off := 15) (q := 18) (t := 30) (by decide +kernel) k1 (by decide) (fun c4 => ?_) (fun c4 => ?_)
      · replace H := H.1 c4
        refine vx_iconst (n := 1) (q := 31) (by decide +kernel) ?_
        refine vx_goto (off := 4) (q := 34) (t := 35) (by decide +kernel) ?_
        refine vx_retZ (q := 36) (by decide +kernel) (Or.inr rfl) ?_
        exact H
      · replace H := H.2 c4
        refine vx_iload_n (n := 0) (q := 19) (by decide +kernel) rfl ?_
        refine vx_bipush (n := 47) (q := 21) (by decide +kernel) ?_
        refine vx_icmp_eq (off := 9) (q := 24) (t := 30) (by decide +kernel) k1 (by decide) (fun c5 => ?_) (fun c5 => ?_)
        · replace H := H.1 c5
          refine vx_iconst (n := 1) (q := 31) (by decide +kernel) ?_
          refine vx_goto (off := 4) (q := 34) (t := 35) (by decide +kernel) ?_
          refine vx_retZ (q := 36) (by decide +kernel) (Or.inr rfl) ?_
          exact H
        · replace H := H.2 c5
          refine vx_iload_n (n := 0) (q := 25) (by decide +kernel) rfl ?_
          refine vx_bipush (n := 37) (q := 27) (by decide +kernel) ?_
          refine vx_icmp_ne (off := 7) (q := 30) (t := 34) (by decide +kernel) k1 (by decide) (fun c6 => ?_) (fun c6 => ?_)
          · replace H := H.1 c6
            refine vx_iconst (n := 0) (q := 35) (by decide +kernel) ?_
            refine vx_retZ (q := 36) (by decide +kernel) (Or.inl rfl) ?_
            exact H
          · replace H := H.2 c6
            refine vx_iconst (n := 1) (q := 31) (by decide +kernel) ?_
            refine vx_goto (off := 4) (q := 34) (t := 35) (by decide +kernel) ?_
            refine vx_retZ (q := 36) (by decide +kernel) (Or.inr rfl) ?_
            exact H
