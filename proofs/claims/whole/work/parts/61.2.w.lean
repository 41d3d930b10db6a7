/-! Printed by my own program (wip/whole/gen_seg.py): walks of methods 76-82,83-88 -/
-- RuleHouseModel.finds()Z
theorem vg_76 {d : Nat} {h : ve_H} {P : Int → ve_H → Prop}  (hT : vx_T 625 672 h) (H : vx_W (d + 1) 76 2 [some (.ref 625), some (.int (vx_i 1)), none, none] [] h (vx_RI P)) : vx_CI (d + 1) 76 [.ref 625] h P := by
  refine vx_enter (ml := 4) (by decide +kernel) ?_
  show vx_W _ _ 0 [some (.ref 625), none, none, none] [] h _
  refine vx_iconst (n := 1) (q := 1) (by decide +kernel) ?_
  refine vx_istore_n (n := 1) (q := 2) (lv' := [some (.ref 625), some (.int (vx_i 1)), none, none]) (by decide +kernel) rfl ?_
  exact H
theorem vg_76_2 {d : Nat} {h : ve_H} {P : Int → ve_H → Prop} {v1 : Int} {v2 : Option Value} {v3 : Option Value} (hT : vx_T 625 672 h) (H : (vx_rI v1) ∧ ((v1 = 0 → vx_W (d + 1) 76 192 [some (.ref 625), some (.int (vx_i v1)), some (.int (vx_i (6 * (vx_J h 625 42)))), v3] [] h (vx_RI P)) ∧ (v1 ≠ 0 → vx_CI d 74 [.ref 625] h (fun r3 h3 => vx_T 625 672 h3 → ((r3 ≠ 0 → vx_W (d + 1) 76 25 [some (.ref 625), some (.int (vx_i 0)), some (.int (vx_i (6 * (vx_J h3 625 42)))), v3] [] h3 (vx_RI P)) ∧ (r3 = 0 → P 0 h3)))))) : vx_W (d + 1) 76 2 [some (.ref 625), some (.int (vx_i v1)), v2, v3] [] h (vx_RI P) := by
  refine vx_iload_n (n := 1) (q := 3) (by decide +kernel) rfl ?_
  obtain ⟨k1, H⟩ := H
  refine vx_if0_eq (off := 181) (q := 6) (t := 184) (by decide +kernel) k1 (fun c2 => ?_) (fun c2 => ?_)
  · replace H := H.1 c2
    refine vx_bipush (n := 6) (q := 186) (by decide +kernel) ?_
    refine vx_aload_n (n := 0) (q := 187) (by decide +kernel) rfl ?_
    refine vx_getI (idx := 223) (kd := 9) (s := 42) (fin := false) (q := 190) (by decide +kernel) (vx_Tk hT (by decide +kernel)) ?_
    refine vx_imul (q := 191) (by decide +kernel) ?_
    refine vx_istore_n (n := 2) (q := 192) (lv' := [some (.ref 625), some (.int (vx_i v1)), some (.int (vx_i (6 * (vx_J h 625 42)))), v3]) (by decide +kernel) rfl ?_
    exact H
  · replace H := H.2 c2
    refine vx_aload_n (n := 0) (q := 7) (by decide +kernel) rfl ?_
    refine vx_callI (i := .invokevirtual 391) (how := 3) (cm := 74) (np := 1) (q := 10) (args := [.ref 625]) (rest := []) (by decide +kernel) rfl rfl rfl (vx_w2 (w := 1) (ml := 2) rfl (by decide +kernel)) (vx_rcv (kd := 9) (vx_Tk hT (by decide +kernel)) (by decide +kernel)) H (fun r3 h3 hr3 hs3 H => ?_)
    have hT3 := vx_Tsh hT hs3
    replace H := H hT3
    refine vx_if0_ne (off := 5) (q := 13) (t := 15) (by decide +kernel) hr3 (fun c4 => ?_) (fun c4 => ?_)
    · replace H := H.1 c4
      refine vx_iconst (n := 0) (q := 16) (by decide +kernel) ?_
      refine vx_istore_n (n := 1) (q := 17) (lv' := [some (.ref 625), some (.int (vx_i 0)), v2, v3]) (by decide +kernel) rfl ?_
      refine vx_bipush (n := 6) (q := 19) (by decide +kernel) ?_
      refine vx_aload_n (n := 0) (q := 20) (by decide +kernel) rfl ?_
      refine vx_getI (idx := 223) (kd := 9) (s := 42) (fin := false) (q := 23) (by decide +kernel) (vx_Tk hT3 (by decide +kernel)) ?_
      refine vx_imul (q := 24) (by decide +kernel) ?_
      refine vx_istore_n (n := 2) (q := 25) (lv' := [some (.ref 625), some (.int (vx_i 0)), some (.int (vx_i (6 * (vx_J h3 625 42)))), v3]) (by decide +kernel) rfl ?_
      exact H
    · replace H := H.2 c4
      refine vx_iconst (n := 0) (q := 14) (by decide +kernel) ?_
      refine vx_retZ (q := 15) (by decide +kernel) (Or.inl rfl) ?_
      exact H
theorem vg_76_25 {d : Nat} {h : ve_H} {P : Int → ve_H → Prop} {v1 : Int} {v2 : Int} {v3 : Option Value} (hT : vx_T 625 672 h) (H : (0 ≤ (vx_J h 625 42) ∧ (vx_J h 625 42) < 61) ∧ (vx_rI v2) ∧ (vx_rI ((6 * (vx_J h 625 42)) + (vx_J h 641 (vx_J h 625 42).toNat))) ∧ ((((6 * (vx_J h 625 42)) + (vx_J h 641 (vx_J h 625 42).toNat)) ≤ v2 → vx_W (d + 1) 76 2 [some (.ref 625), some (.int (vx_i v1)), some (.int (vx_i v2)), v3] [] h (vx_RI P)) ∧ (v2 < ((6 * (vx_J h 625 42)) + (vx_J h 641 (vx_J h 625 42).toNat)) → (0 ≤ v2 ∧ v2 < 366) ∧ (((vx_J h 643 v2.toNat) ≠ 3 → (0 ≤ v2 ∧ v2 < 366) ∧ (((vx_J h 643 v2.toNat) ≠ 2 → vx_W (d + 1) 76 25 [some (.ref 625), some (.int (vx_i v1)), some (.int (vx_i (v2 + 1))), v3] [] h (vx_RI P)) ∧ ((vx_J h 643 v2.toNat) = 2 → (0 ≤ v2 ∧ v2 < 366) ∧ (((vx_J h 644 v2.toNat) ≠ 61 → vx_W (d + 1) 76 25 [some (.ref 625), some (.int (vx_i v1)), some (.int (vx_i (v2 + 1))), v3] [] h (vx_RI P)) ∧ ((vx_J h 644 v2.toNat) = 61 → vx_CI d 68 [.ref 625, .int (vx_i v2), .int (vx_i 0)] h (fun r11 h11 => vx_T 625 672 h11 → vx_CI d 68 [.ref 625, .int (vx_i v2), .int (vx_i 1)] h11 (fun r12 h12 => vx_T 625 672 h12 → ((r11 = r12 → vx_W (d + 1) 76 25 [some (.ref 625), some (.int (vx_i v1)), some (.int (vx_i (v2 + 1))), v3] [] h12 (vx_RI P)) ∧ (r11 ≠ r12 → vx_CI d 68 [.ref 625, .int (vx_i v2), .int (vx_i 0)] h12 (fun r14 h14 => vx_T 625 672 h14 → ((r14 = 0 → vx_CL d 69 [.ref 625, .int (vx_i v2), .int (vx_i (1 - 0))] h14 (fun r16 h16 => vx_T 625 672 h16 → vx_CV d 75 [.ref 625, .int (vx_i v2), .int (vx_i 0), .long (vx_l r16)] h16 (fun h17 => vx_T 625 672 h17 → vx_W (d + 1) 76 25 [some (.ref 625), some (.int (vx_i 1)), some (.int (vx_i (v2 + 1))), some (.int (vx_i 0))] [] h17 (vx_RI P)))) ∧ (r14 ≠ 0 → vx_CL d 69 [.ref 625, .int (vx_i v2), .int (vx_i (1 - 1))] h14 (fun r18 h18 => vx_T 625 672 h18 → vx_CV d 75 [.ref 625, .int (vx_i v2), .int (vx_i 1), .long (vx_l r18)] h18 (fun h19 => vx_T 625 672 h19 → vx_W (d + 1) 76 25 [some (.ref 625), some (.int (vx_i 1)), some (.int (vx_i (v2 + 1))), some (.int (vx_i 1))] [] h19 (vx_RI P))))))))))))))) ∧ ((vx_J h 643 v2.toNat) = 3 → vx_CI d 68 [.ref 625, .int (vx_i v2), .int (vx_i 0)] h (fun r20 h20 => vx_T 625 672 h20 → ((r20 ≠ 0 → (0 ≤ v2 ∧ v2 < 366) ∧ (((vx_J h20 643 v2.toNat) ≠ 2 → vx_W (d + 1) 76 25 [some (.ref 625), some (.int (vx_i v1)), some (.int (vx_i (v2 + 1))), v3] [] h20 (vx_RI P)) ∧ ((vx_J h20 643 v2.toNat) = 2 → (0 ≤ v2 ∧ v2 < 366) ∧ (((vx_J h20 644 v2.toNat) ≠ 61 → vx_W (d + 1) 76 25 [some (.ref 625), some (.int (vx_i v1)), some (.int (vx_i (v2 + 1))), v3] [] h20 (vx_RI P)) ∧ ((vx_J h20 644 v2.toNat) = 61 → vx_CI d 68 [.ref 625, .int (vx_i v2), .int (vx_i 0)] h20 (fun r26 h26 => vx_T 625 672 h26 → vx_CI d 68 [.ref 625, .int (vx_i v2), .int (vx_i 1)] h26 (fun r27 h27 => vx_T 625 672 h27 → ((r26 = r27 → vx_W (d + 1) 76 25 [some (.ref 625), some (.int (vx_i v1)), some (.int (vx_i (v2 + 1))), v3] [] h27 (vx_RI P)) ∧ (r26 ≠ r27 → vx_CI d 68 [.ref 625, .int (vx_i v2), .int (vx_i 0)] h27 (fun r29 h29 => vx_T 625 672 h29 → ((r29 = 0 → vx_CL d 69 [.ref 625, .int (vx_i v2), .int (vx_i (1 - 0))] h29 (fun r31 h31 => vx_T 625 672 h31 → vx_CV d 75 [.ref 625, .int (vx_i v2), .int (vx_i 0), .long (vx_l r31)] h31 (fun h32 => vx_T 625 672 h32 → vx_W (d + 1) 76 25 [some (.ref 625), some (.int (vx_i 1)), some (.int (vx_i (v2 + 1))), some (.int (vx_i 0))] [] h32 (vx_RI P)))) ∧ (r29 ≠ 0 → vx_CL d 69 [.ref 625, .int (vx_i v2), .int (vx_i (1 - 1))] h29 (fun r33 h33 => vx_T 625 672 h33 → vx_CV d 75 [.ref 625, .int (vx_i v2), .int (vx_i 1), .long (vx_l r33)] h33 (fun h34 => vx_T 625 672 h34 → vx_W (d + 1) 76 25 [some (.ref 625), some (.int (vx_i 1)), some (.int (vx_i (v2 + 1))), some (.int (vx_i 1))] [] h34 (vx_RI P))))))))))))))) ∧ (r20 = 0 → vx_CI d 68 [.ref 625, .int (vx_i v2), .int (vx_i 1)] h20 (fun r35 h35 => vx_T 625 672 h35 → ((r35 = 0 → (0 ≤ v2 ∧ v2 < 366) ∧ (((vx_J h35 643 v2.toNat) ≠ 2 → vx_W (d + 1) 76 25 [some (.ref 625), some (.int (vx_i v1)), some (.int (vx_i (v2 + 1))), v3] [] h35 (vx_RI P)) ∧ ((vx_J h35 643 v2.toNat) = 2 → (0 ≤ v2 ∧ v2 < 366) ∧ (((vx_J h35 644 v2.toNat) ≠ 61 → vx_W (d + 1) 76 25 [some (.ref 625), some (.int (vx_i v1)), some (.int (vx_i (v2 + 1))), v3] [] h35 (vx_RI P)) ∧ ((vx_J h35 644 v2.toNat) = 61 → vx_CI d 68 [.ref 625, .int (vx_i v2), .int (vx_i 0)] h35 (fun r41 h41 => vx_T 625 672 h41 → vx_CI d 68 [.ref 625, .int (vx_i v2), .int (vx_i 1)] h41 (fun r42 h42 => vx_T 625 672 h42 → ((r41 = r42 → vx_W (d + 1) 76 25 [some (.ref 625), some (.int (vx_i v1)), some (.int (vx_i (v2 + 1))), v3] [] h42 (vx_RI P)) ∧ (r41 ≠ r42 → vx_CI d 68 [.ref 625, .int (vx_i v2), .int (vx_i 0)] h42 (fun r44 h44 => vx_T 625 672 h44 → ((r44 = 0 → vx_CL d 69 [.ref 625, .int (vx_i v2), .int (vx_i (1 - 0))] h44 (fun r46 h46 => vx_T 625 672 h46 → vx_CV d 75 [.ref 625, .int (vx_i v2), .int (vx_i 0), .long (vx_l r46)] h46 (fun h47 => vx_T 625 672 h47 → vx_W (d + 1) 76 25 [some (.ref 625), some (.int (vx_i 1)), some (.int (vx_i (v2 + 1))), some (.int (vx_i 0))] [] h47 (vx_RI P)))) ∧ (r44 ≠ 0 → vx_CL d 69 [.ref 625, .int (vx_i v2), .int (vx_i (1 - 1))] h44 (fun r48 h48 => vx_T 625 672 h48 → vx_CV d 75 [.ref 625, .int (vx_i v2), .int (vx_i 1), .long (vx_l r48)] h48 (fun h49 => vx_T 625 672 h49 → vx_W (d + 1) 76 25 [some (.ref 625), some (.int (vx_i 1)), some (.int (vx_i (v2 + 1))), some (.int (vx_i 1))] [] h49 (vx_RI P))))))))))))))) ∧ (r35 ≠ 0 → vx_CI d 68 [.ref 625, .int (vx_i v2), .int (vx_i 2)] h35 (fun r50 h50 => vx_T 625 672 h50 → ((r50 = 0 → (0 ≤ v2 ∧ v2 < 366) ∧ (((vx_J h50 643 v2.toNat) ≠ 2 → vx_W (d + 1) 76 25 [some (.ref 625), some (.int (vx_i v1)), some (.int (vx_i (v2 + 1))), v3] [] h50 (vx_RI P)) ∧ ((vx_J h50 643 v2.toNat) = 2 → (0 ≤ v2 ∧ v2 < 366) ∧ (((vx_J h50 644 v2.toNat) ≠ 61 → vx_W (d + 1) 76 25 [some (.ref 625), some (.int (vx_i v1)), some (.int (vx_i (v2 + 1))), v3] [] h50 (vx_RI P)) ∧ ((vx_J h50 644 v2.toNat) = 61 → vx_CI d 68 [.ref 625, .int (vx_i v2), .int (vx_i 0)] h50 (fun r56 h56 => vx_T 625 672 h56 → vx_CI d 68 [.ref 625, .int (vx_i v2), .int (vx_i 1)] h56 (fun r57 h57 => vx_T 625 672 h57 → ((r56 = r57 → vx_W (d + 1) 76 25 [some (.ref 625), some (.int (vx_i v1)), some (.int (vx_i (v2 + 1))), v3] [] h57 (vx_RI P)) ∧ (r56 ≠ r57 → vx_CI d 68 [.ref 625, .int (vx_i v2), .int (vx_i 0)] h57 (fun r59 h59 => vx_T 625 672 h59 → ((r59 = 0 → vx_CL d 69 [.ref 625, .int (vx_i v2), .int (vx_i (1 - 0))] h59 (fun r61 h61 => vx_T 625 672 h61 → vx_CV d 75 [.ref 625, .int (vx_i v2), .int (vx_i 0), .long (vx_l r61)] h61 (fun h62 => vx_T 625 672 h62 → vx_W (d + 1) 76 25 [some (.ref 625), some (.int (vx_i 1)), some (.int (vx_i (v2 + 1))), some (.int (vx_i 0))] [] h62 (vx_RI P)))) ∧ (r59 ≠ 0 → vx_CL d 69 [.ref 625, .int (vx_i v2), .int (vx_i (1 - 1))] h59 (fun r63 h63 => vx_T 625 672 h63 → vx_CV d 75 [.ref 625, .int (vx_i v2), .int (vx_i 1), .long (vx_l r63)] h63 (fun h64 => vx_T 625 672 h64 → vx_W (d + 1) 76 25 [some (.ref 625), some (.int (vx_i 1)), some (.int (vx_i (v2 + 1))), some (.int (vx_i 1))] [] h64 (vx_RI P))))))))))))))) ∧ (r50 ≠ 0 → vx_CI d 73 [.ref 625, .int (vx_i v2)] h50 (fun r65 h65 => vx_T 625 672 h65 → ((r65 ≠ 0 → vx_CV d 75 [.ref 625, .int (vx_i v2), .int (vx_i 0), .long (vx_l (vx_K h65 625 69))] h65 (fun h67 => vx_T 625 672 h67 → vx_W (d + 1) 76 25 [some (.ref 625), some (.int (vx_i 1)), some (.int (vx_i (v2 + 1))), v3] [] h67 (vx_RI P))) ∧ (r65 = 0 → P 0 h65))))))))))))))))) : vx_W (d + 1) 76 25 [some (.ref 625), some (.int (vx_i v1)), some (.int (vx_i v2)), v3] [] h (vx_RI P) := by
  refine vx_iload_n (n := 2) (q := 26) (by decide +kernel) rfl ?_
  refine vx_bipush (n := 6) (q := 28) (by decide +kernel) ?_
  refine vx_aload_n (n := 0) (q := 29) (by decide +kernel) rfl ?_
  refine vx_getI (idx := 223) (kd := 9) (s := 42) (fin := false) (q := 32) (by decide +kernel) (vx_Tk hT (by decide +kernel)) ?_
  refine vx_imul (q := 33) (by decide +kernel) ?_
  refine vx_aload_n (n := 0) (q := 34) (by decide +kernel) rfl ?_
  refine vx_getR (b := 641) (idx := 56) (kd := 9) (s := 22) (fin := true) (q := 37) (by decide +kernel) (vx_Tk hT (by decide +kernel)) (vx_Tr hT (kd := 9) (by decide +kernel) (by decide +kernel) (by decide +kernel)) ?_
  refine vx_aload_n (n := 0) (q := 38) (by decide +kernel) rfl ?_
  refine vx_getI (idx := 223) (kd := 9) (s := 42) (fin := false) (q := 41) (by decide +kernel) (vx_Tk hT (by decide +kernel)) ?_
  obtain ⟨k1, H⟩ := H
  refine vx_iaload (z := 61) (q := 42) (by decide +kernel) (vx_Tk hT (by decide +kernel)) (vx_Tz hT (by decide +kernel)) (vx_ix k1 (by decide)) ?_
  refine vx_iadd (q := 43) (by decide +kernel) ?_
  obtain ⟨k2, H⟩ := H
  obtain ⟨k3, H⟩ := H
  refine vx_icmp_ge (off := 138) (q := 46) (t := 181) (by decide +kernel) k2 k3 (fun c4 => ?_) (fun c4 => ?_)
  · replace H := H.1 c4
    refine vx_goto (off := (-179)) (q := 184) (t := 2) (by decide +kernel) ?_
    exact H
  · replace H := H.2 c4
    refine vx_aload_n (n := 0) (q := 47) (by decide +kernel) rfl ?_
    refine vx_getR (b := 643) (idx := 62) (kd := 9) (s := 24) (fin := true) (q := 50) (by decide +kernel) (vx_Tk hT (by decide +kernel)) (vx_Tr hT (kd := 9) (by decide +kernel) (by decide +kernel) (by decide +kernel)) ?_
    refine vx_iload_n (n := 2) (q := 51) (by decide +kernel) rfl ?_
    obtain ⟨k5, H⟩ := H
    refine vx_iaload (z := 366) (q := 52) (by decide +kernel) (vx_Tk hT (by decide +kernel)) (vx_Tz hT (by decide +kernel)) (vx_ix k5 (by decide)) ?_
    refine vx_iconst (n := 3) (q := 53) (by decide +kernel) ?_
    refine vx_icmp_ne (off := 55) (q := 56) (t := 108) (by decide +kernel) (vx_rI_J h 643 v2.toNat) (by decide) (fun c6 => ?_) (fun c6 => ?_)
    · replace H := H.1 c6
      refine vx_aload_n (n := 0) (q := 109) (by decide +kernel) rfl ?_
      refine vx_getR (b := 643) (idx := 62) (kd := 9) (s := 24) (fin := true) (q := 112) (by decide +kernel) (vx_Tk hT (by decide +kernel)) (vx_Tr hT (kd := 9) (by decide +kernel) (by decide +kernel) (by decide +kernel)) ?_
      refine vx_iload_n (n := 2) (q := 113) (by decide +kernel) rfl ?_
      obtain ⟨k7, H⟩ := H
      refine vx_iaload (z := 366) (q := 114) (by decide +kernel) (vx_Tk hT (by decide +kernel)) (vx_Tz hT (by decide +kernel)) (vx_ix k7 (by decide)) ?_
      refine vx_iconst (n := 2) (q := 115) (by decide +kernel) ?_
      refine vx_icmp_ne (off := 60) (q := 118) (t := 175) (by decide +kernel) (vx_rI_J h 643 v2.toNat) (by decide) (fun c8 => ?_) (fun c8 => ?_)
      · replace H := H.1 c8
        refine vx_iinc (n := 2) (m := 1) (x := v2) (q := 178) (lv' := [some (.ref 625), some (.int (vx_i v1)), some (.int (vx_i (v2 + 1))), v3]) (by decide +kernel) rfl rfl ?_
        refine vx_goto (off := (-153)) (q := 181) (t := 25) (by decide +kernel) ?_
        exact H
      · replace H := H.2 c8
        refine vx_aload_n (n := 0) (q := 119) (by decide +kernel) rfl ?_
        refine vx_getR (b := 644) (idx := 65) (kd := 9) (s := 25) (fin := true) (q := 122) (by decide +kernel) (vx_Tk hT (by decide +kernel)) (vx_Tr hT (kd := 9) (by decide +kernel) (by decide +kernel) (by decide +kernel)) ?_
        refine vx_iload_n (n := 2) (q := 123) (by decide +kernel) rfl ?_
        obtain ⟨k9, H⟩ := H
        refine vx_iaload (z := 366) (q := 124) (by decide +kernel) (vx_Tk hT (by decide +kernel)) (vx_Tz hT (by decide +kernel)) (vx_ix k9 (by decide)) ?_
        refine vx_bipush (n := 61) (q := 126) (by decide +kernel) ?_
        refine vx_icmp_ne (off := 49) (q := 129) (t := 175) (by decide +kernel) (vx_rI_J h 644 v2.toNat) (by decide) (fun c10 => ?_) (fun c10 => ?_)
        · replace H := H.1 c10
          refine vx_iinc (n := 2) (m := 1) (x := v2) (q := 178) (lv' := [some (.ref 625), some (.int (vx_i v1)), some (.int (vx_i (v2 + 1))), v3]) (by decide +kernel) rfl rfl ?_
          refine vx_goto (off := (-153)) (q := 181) (t := 25) (by decide +kernel) ?_
          exact H
        · replace H := H.2 c10
          refine vx_aload_n (n := 0) (q := 130) (by decide +kernel) rfl ?_
          refine vx_iload_n (n := 2) (q := 131) (by decide +kernel) rfl ?_
          refine vx_iconst (n := 0) (q := 132) (by decide +kernel) ?_
          refine vx_callI (i := .invokevirtual 382) (how := 3) (cm := 68) (np := 3) (q := 135) (args := [.ref 625, .int (vx_i v2), .int (vx_i 0)]) (rest := []) (by decide +kernel) rfl rfl rfl (vx_w2 (w := 3) (ml := 3) rfl (by decide +kernel)) (vx_rcv (kd := 9) (vx_Tk hT (by decide +kernel)) (by decide +kernel)) H (fun r11 h11 hr11 hs11 H => ?_)
          have hT11 := vx_Tsh hT hs11
          replace H := H hT11
          refine vx_aload_n (n := 0) (q := 136) (by decide +kernel) rfl ?_
          refine vx_iload_n (n := 2) (q := 137) (by decide +kernel) rfl ?_
          refine vx_iconst (n := 1) (q := 138) (by decide +kernel) ?_
          refine vx_callI (i := .invokevirtual 382) (how := 3) (cm := 68) (np := 3) (q := 141) (args := [.ref 625, .int (vx_i v2), .int (vx_i 1)]) (rest := [.int (vx_i r11)]) (by decide +kernel) rfl rfl rfl (vx_w2 (w := 3) (ml := 3) rfl (by decide +kernel)) (vx_rcv (kd := 9) (vx_Tk hT11 (by decide +kernel)) (by decide +kernel)) H (fun r12 h12 hr12 hs12 H => ?_)
          have hT12 := vx_Tsh hT11 hs12
          replace H := H hT12
          refine vx_icmp_eq (off := 34) (q := 144) (t := 175) (by decide +kernel) hr11 hr12 (fun c13 => ?_) (fun c13 => ?_)
          · replace H := H.1 c13
            refine vx_iinc (n := 2) (m := 1) (x := v2) (q := 178) (lv' := [some (.ref 625), some (.int (vx_i v1)), some (.int (vx_i (v2 + 1))), v3]) (by decide +kernel) rfl rfl ?_
            refine vx_goto (off := (-153)) (q := 181) (t := 25) (by decide +kernel) ?_
            exact H
          · replace H := H.2 c13
            refine vx_aload_n (n := 0) (q := 145) (by decide +kernel) rfl ?_
            refine vx_iload_n (n := 2) (q := 146) (by decide +kernel) rfl ?_
            refine vx_iconst (n := 0) (q := 147) (by decide +kernel) ?_
            refine vx_callI (i := .invokevirtual 382) (how := 3) (cm := 68) (np := 3) (q := 150) (args := [.ref 625, .int (vx_i v2), .int (vx_i 0)]) (rest := []) (by decide +kernel) rfl rfl rfl (vx_w2 (w := 3) (ml := 3) rfl (by decide +kernel)) (vx_rcv (kd := 9) (vx_Tk hT12 (by decide +kernel)) (by decide +kernel)) H (fun r14 h14 hr14 hs14 H => ?_)
            have hT14 := vx_Tsh hT12 hs14
            replace H := H hT14
            refine vx_if0_eq (off := 7) (q := 153) (t := 157) (by decide +kernel) hr14 (fun c15 => ?_) (fun c15 => ?_)
            · replace H := H.1 c15
              refine vx_iconst (n := 0) (q := 158) (by decide +kernel) ?_
              refine vx_istore_n (n := 3) (q := 159) (lv' := [some (.ref 625), some (.int (vx_i v1)), some (.int (vx_i v2)), some (.int (vx_i 0))]) (by decide +kernel) rfl ?_
              refine vx_aload_n (n := 0) (q := 160) (by decide +kernel) rfl ?_
              refine vx_iload_n (n := 2) (q := 161) (by decide +kernel) rfl ?_
              refine vx_iload_n (n := 3) (q := 162) (by decide +kernel) rfl ?_
              refine vx_aload_n (n := 0) (q := 163) (by decide +kernel) rfl ?_
              refine vx_iload_n (n := 2) (q := 164) (by decide +kernel) rfl ?_
              refine vx_iconst (n := 1) (q := 165) (by decide +kernel) ?_
              refine vx_iload_n (n := 3) (q := 166) (by decide +kernel) rfl ?_
              refine vx_isub (q := 167) (by decide +kernel) ?_
              refine vx_callL (i := .invokevirtual 371) (how := 3) (cm := 69) (np := 3) (q := 170) (args := [.ref 625, .int (vx_i v2), .int (vx_i (1 - 0))]) (rest := [.int (vx_i 0), .int (vx_i v2), .ref 625]) (by decide +kernel) rfl rfl rfl (vx_w2 (w := 3) (ml := 3) rfl (by decide +kernel)) (vx_rcv (kd := 9) (vx_Tk hT14 (by decide +kernel)) (by decide +kernel)) H (fun r16 h16 hr16 hs16 H => ?_)
              have hT16 := vx_Tsh hT14 hs16
              replace H := H hT16
              refine vx_callV (i := .invokevirtual 394) (how := 3) (cm := 75) (np := 4) (q := 173) (args := [.ref 625, .int (vx_i v2), .int (vx_i 0), .long (vx_l r16)]) (rest := []) (by decide +kernel) rfl rfl rfl (vx_w2 (w := 5) (ml := 6) rfl (by decide +kernel)) (vx_rcv (kd := 9) (vx_Tk hT16 (by decide +kernel)) (by decide +kernel)) H (fun h17 hs17 H => ?_)
              have hT17 := vx_Tsh hT16 hs17
              replace H := H hT17
              refine vx_iconst (n := 1) (q := 174) (by decide +kernel) ?_
              refine vx_istore_n (n := 1) (q := 175) (lv' := [some (.ref 625), some (.int (vx_i 1)), some (.int (vx_i v2)), some (.int (vx_i 0))]) (by decide +kernel) rfl ?_
              refine vx_iinc (n := 2) (m := 1) (x := v2) (q := 178) (lv' := [some (.ref 625), some (.int (vx_i 1)), some (.int (vx_i (v2 + 1))), some (.int (vx_i 0))]) (by decide +kernel) rfl rfl ?_
              refine vx_goto (off := (-153)) (q := 181) (t := 25) (by decide +kernel) ?_
              exact H
            · replace H := H.2 c15
              refine vx_iconst (n := 1) (q := 154) (by decide +kernel) ?_
              refine vx_goto (off := 4) (q := 157) (t := 158) (by decide +kernel) ?_
              refine vx_istore_n (n := 3) (q := 159) (lv' := [some (.ref 625), some (.int (vx_i v1)), some (.int (vx_i v2)), some (.int (vx_i 1))]) (by decide +kernel) rfl ?_
              refine vx_aload_n (n := 0) (q := 160) (by decide +kernel) rfl ?_
              refine vx_iload_n (n := 2) (q := 161) (by decide +kernel) rfl ?_
              refine vx_iload_n (n := 3) (q := 162) (by decide +kernel) rfl ?_
              refine vx_aload_n (n := 0) (q := 163) (by decide +kernel) rfl ?_
              refine vx_iload_n (n := 2) (q := 164) (by decide +kernel) rfl ?_
              refine vx_iconst (n := 1) (q := 165) (by decide +kernel) ?_
              refine vx_iload_n (n := 3) (q := 166) (by decide +kernel) rfl ?_
              refine vx_isub (q := 167) (by decide +kernel) ?_
              refine vx_callL (i := .invokevirtual 371) (how := 3) (cm := 69) (np := 3) (q := 170) (args := [.ref 625, .int (vx_i v2), .int (vx_i (1 - 1))]) (rest := [.int (vx_i 1), .int (vx_i v2), .ref 625]) (by decide +kernel) rfl rfl rfl (vx_w2 (w := 3) (ml := 3) rfl (by decide +kernel)) (vx_rcv (kd := 9) (vx_Tk hT14 (by decide +kernel)) (by decide +kernel)) H (fun r18 h18 hr18 hs18 H => ?_)
              have hT18 := vx_Tsh hT14 hs18
              replace H := H hT18
              refine vx_callV (i := .invokevirtual 394) (how := 3) (cm := 75) (np := 4) (q := 173) (args := [.ref 625, .int (vx_i v2), .int (vx_i 1), .long (vx_l r18)]) (rest := []) (by decide +kernel) rfl rfl rfl (vx_w2 (w := 5) (ml := 6) rfl (by decide +kernel)) (vx_rcv (kd := 9) (vx_Tk hT18 (by decide +kernel)) (by decide +kernel)) H (fun h19 hs19 H => ?_)
              have hT19 := vx_Tsh hT18 hs19
              replace H := H hT19
              refine vx_iconst (n := 1) (q := 174) (by decide +kernel) ?_
              refine vx_istore_n (n := 1) (q := 175) (lv' := [some (.ref 625), some (.int (vx_i 1)), some (.int (vx_i v2)), some (.int (vx_i 1))]) (by decide +kernel) rfl ?_
              refine vx_iinc (n := 2) (m := 1) (x := v2) (q := 178) (lv' := [some (.ref 625), some (.int (vx_i 1)), some (.int (vx_i (v2 + 1))), some (.int (vx_i 1))]) (by decide +kernel) rfl rfl ?_
              refine vx_goto (off := (-153)) (q := 181) (t := 25) (by decide +kernel) ?_
              exact H
    · replace H := H.2 c6
      refine vx_aload_n (n := 0) (q := 57) (by decide +kernel) rfl ?_
      refine vx_iload_n (n := 2) (q := 58) (by decide +kernel) rfl ?_
      refine vx_iconst (n := 0) (q := 59) (by decide +kernel) ?_
      refine vx_callI (i := .invokevirtual 382) (how := 3) (cm := 68) (np := 3) (q := 62) (args := [.ref 625, .int (vx_i v2), .int (vx_i 0)]) (rest := []) (by decide +kernel) rfl rfl rfl (vx_w2 (w := 3) (ml := 3) rfl (by decide +kernel)) (vx_rcv (kd := 9) (vx_Tk hT (by decide +kernel)) (by decide +kernel)) H (fun r20 h20 hr20 hs20 H => ?_)
      have hT20 := vx_Tsh hT hs20
      replace H := H hT20
      refine vx_if0_ne (off := 46) (q := 65) (t := 108) (by decide +kernel) hr20 (fun c21 => ?_) (fun c21 => ?_)
      · replace H := H.1 c21
        refine vx_aload_n (n := 0) (q := 109) (by decide +kernel) rfl ?_
        refine vx_getR (b := 643) (idx := 62) (kd := 9) (s := 24) (fin := true) (q := 112) (by decide +kernel) (vx_Tk hT20 (by decide +kernel)) (vx_Tr hT20 (kd := 9) (by decide +kernel) (by decide +kernel) (by decide +kernel)) ?_
        refine vx_iload_n (n := 2) (q := 113) (by decide +kernel) rfl ?_
        obtain ⟨k22, H⟩ := H
        refine vx_iaload (z := 366) (q := 114) (by decide +kernel) (vx_Tk hT20 (by decide +kernel)) (vx_Tz hT20 (by decide +kernel)) (vx_ix k22 (by decide)) ?_
        refine vx_iconst (n := 2) (q := 115) (by decide +kernel) ?_
        refine vx_icmp_ne (off := 60) (q := 118) (t := 175) (by decide +kernel) (vx_rI_J h20 643 v2.toNat) (by decide) (fun c23 => ?_) (fun c23 => ?_)
        · replace H := H.1 c23
          refine vx_iinc (n := 2) (m := 1) (x := v2) (q := 178) (lv' := [some (.ref 625), some (.int (vx_i v1)), some (.int (vx_i (v2 + 1))), v3]) (by decide +kernel) rfl rfl ?_
          refine vx_goto (off := (-153)) (q := 181) (t := 25) (by decide +kernel) ?_
          exact H
        · replace H := H.2 c23
          refine vx_aload_n (n := 0) (q := 119) (by decide +kernel) rfl ?_
          refine vx_getR (b := 644) (idx := 65) (kd := 9) (s := 25) (fin := true) (q := 122) (by decide +kernel) (vx_Tk hT20 (by decide +kernel)) (vx_Tr hT20 (kd := 9) (by decide +kernel) (by decide +kernel) (by decide +kernel)) ?_
          refine vx_iload_n (n := 2) (q := 123) (by decide +kernel) rfl ?_
          obtain ⟨k24, H⟩ := H
          refine vx_iaload (z := 366) (q := 124) (by decide +kernel) (vx_Tk hT20 (by decide +kernel)) (vx_Tz hT20 (by decide +kernel)) (vx_ix k24 (by decide)) ?_
          refine vx_bipush (n := 61) (q := 126) (by decide +kernel) ?_
          refine vx_icmp_ne (off := 49) (q := 129) (t := 175) (by decide +kernel) (vx_rI_J h20 644 v2.toNat) (by decide) (fun c25 => ?_) (fun c25 => ?_)
          · replace H := H.1 c25
            refine vx_iinc (n := 2) (m := 1) (x := v2) (q := 178) (lv' := [some (.ref 625), some (.int (vx_i v1)), some (.int (vx_i (v2 + 1))), v3]) (by decide +kernel) rfl rfl ?_
            refine vx_goto (off := (-153)) (q := 181) (t := 25) (by decide +kernel) ?_
            exact H
          · replace H := H.2 c25
            refine vx_aload_n (n := 0) (q := 130) (by decide +kernel) rfl ?_
            refine vx_iload_n (n := 2) (q := 131) (by decide +kernel) rfl ?_
            refine vx_iconst (n := 0) (q := 132) (by decide +kernel) ?_
            refine vx_callI (i := .invokevirtual 382) (how := 3) (cm := 68) (np := 3) (q := 135) (args := [.ref 625, .int (vx_i v2), .int (vx_i 0)]) (rest := []) (by decide +kernel) rfl rfl rfl (vx_w2 (w := 3) (ml := 3) rfl (by decide +kernel)) (vx_rcv (kd := 9) (vx_Tk hT20 (by decide +kernel)) (by decide +kernel)) H (fun r26 h26 hr26 hs26 H => ?_)
            have hT26 := vx_Tsh hT20 hs26
            replace H := H hT26
            refine vx_aload_n (n := 0) (q := 136) (by decide +kernel) rfl ?_
            refine vx_iload_n (n := 2) (q := 137) (by decide +kernel) rfl ?_
            refine vx_iconst (n := 1) (q := 138) (by decide +kernel) ?_
            refine vx_callI (i := .invokevirtual 382) (how := 3) (cm := 68) (np := 3) (q := 141) (args := [.ref 625, .int (vx_i v2), .int (vx_i 1)]) (rest := [.int (vx_i r26)]) (by decide +kernel) rfl rfl rfl (vx_w2 (w := 3) (ml := 3) rfl (by decide +kernel)) (vx_rcv (kd := 9) (vx_Tk hT26 (by decide +kernel)) (by decide +kernel)) H (fun r27 h27 hr27 hs27 H => ?_)
            have hT27 := vx_Tsh hT26 hs27
            replace H := H hT27
            refine vx_icmp_eq (off := 34) (q := 144) (t := 175) (by decide +kernel) hr26 hr27 (fun c28 => ?_) (fun c28 => ?_)
            · replace H := H.1 c28
              refine vx_iinc (n := 2) (m := 1) (x := v2) (q := 178) (lv' := [some (.ref 625), some (.int (vx_i v1)), some (.int (vx_i (v2 + 1))), v3]) (by decide +kernel) rfl rfl ?_
              refine vx_goto (off := (-153)) (q := 181) (t := 25) (by decide +kernel) ?_
              exact H
            · replace H := H.2 c28
              refine vx_aload_n (n := 0) (q := 145) (by decide +kernel) rfl ?_
              refine vx_iload_n (n := 2) (q := 146) (by decide +kernel) rfl ?_
              refine vx_iconst (n := 0) (q := 147) (by decide +kernel) ?_
              refine vx_callI (i := .invokevirtual 382) (how := 3) (cm := 68) (np := 3) (q := 150) (args := [.ref 625, .int (vx_i v2), .int (vx_i 0)]) (rest := []) (by decide +kernel) rfl rfl rfl (vx_w2 (w := 3) (ml := 3) rfl (by decide +kernel)) (vx_rcv (kd := 9) (vx_Tk hT27 (by decide +kernel)) (by decide +kernel)) H (fun r29 h29 hr29 hs29 H => ?_)
              have hT29 := vx_Tsh hT27 hs29
              replace H := H hT29
              refine vx_if0_eq (off := 7) (q := 153) (t := 157) (by decide +kernel) hr29 (fun c30 => ?_) (fun c30 => ?_)
              · replace H := H.1 c30
                refine vx_iconst (n := 0) (q := 158) (by decide +kernel) ?_
                refine vx_istore_n (n := 3) (q := 159) (lv' := [some (.ref 625), some (.int (vx_i v1)), some (.int (vx_i v2)), some (.int (vx_i 0))]) (by decide +kernel) rfl ?_
                refine vx_aload_n (n := 0) (q := 160) (by decide +kernel) rfl ?_
                refine vx_iload_n (n := 2) (q := 161) (by decide +kernel) rfl ?_
                refine vx_iload_n (n := 3) (q := 162) (by decide +kernel) rfl ?_
                refine vx_aload_n (n := 0) (q := 163) (by decide +kernel) rfl ?_
                refine vx_iload_n (n := 2) (q := 164) (by decide +kernel) rfl ?_
                refine vx_iconst (n := 1) (q := 165) (by decide +kernel) ?_
                refine vx_iload_n (n := 3) (q := 166) (by decide +kernel) rfl ?_
                refine vx_isub (q := 167) (by decide +kernel) ?_
                refine vx_callL (i := .invokevirtual 371) (how := 3) (cm := 69) (np := 3) (q := 170) (args := [.ref 625, .int (vx_i v2), .int (vx_i (1 - 0))]) (rest := [.int (vx_i 0), .int (vx_i v2), .ref 625]) (by decide +kernel) rfl rfl rfl (vx_w2 (w := 3) (ml := 3) rfl (by decide +kernel)) (vx_rcv (kd := 9) (vx_Tk hT29 (by decide +kernel)) (by decide +kernel)) H (fun r31 h31 hr31 hs31 H => ?_)
                have hT31 := vx_Tsh hT29 hs31
                replace H := H hT31
                refine vx_callV (i := .invokevirtual 394) (how := 3) (cm := 75) (np := 4) (q := 173) (args := [.ref 625, .int (vx_i v2), .int (vx_i 0), .long (vx_l r31)]) (rest := []) (by decide +kernel) rfl rfl rfl (vx_w2 (w := 5) (ml := 6) rfl (by decide +kernel)) (vx_rcv (kd := 9) (vx_Tk hT31 (by decide +kernel)) (by decide +kernel)) H (fun h32 hs32 H => ?_)
                have hT32 := vx_Tsh hT31 hs32
                replace H := H hT32
                refine vx_iconst (n := 1) (q := 174) (by decide +kernel) ?_
                refine vx_istore_n (n := 1) (q := 175) (lv' := [some (.ref 625), some (.int (vx_i 1)), some (.int (vx_i v2)), some (.int (vx_i 0))]) (by decide +kernel) rfl ?_
                refine vx_iinc (n := 2) (m := 1) (x := v2) (q := 178) (lv' := [some (.ref 625), some (.int (vx_i 1)), some (.int (vx_i (v2 + 1))), some (.int (vx_i 0))]) (by decide +kernel) rfl rfl ?_
                refine vx_goto (off := (-153)) (q := 181) (t := 25) (by decide +kernel) ?_
                exact H
              · replace H := H.2 c30
                refine vx_iconst (n := 1) (q := 154) (by decide +kernel) ?_
                refine vx_goto (off := 4) (q := 157) (t := 158) (by decide +kernel) ?_
                refine vx_istore_n (n := 3) (q := 159) (lv' := [some (.ref 625), some (.int (vx_i v1)), some (.int (vx_i v2)), some (.int (vx_i 1))]) (by decide +kernel) rfl ?_
                refine vx_aload_n (n := 0) (q := 160) (by decide +kernel) rfl ?_
                refine vx_iload_n (n := 2) (q := 161) (by decide +kernel) rfl ?_
                refine vx_iload_n (n := 3) (q := 162) (by decide +kernel) rfl ?_
                refine vx_aload_n (n := 0) (q := 163) (by decide +kernel) rfl ?_
                refine vx_iload_n (n := 2) (q := 164) (by decide +kernel) rfl ?_
                refine vx_iconst (n := 1) (q := 165) (by decide +kernel) ?_
                refine vx_iload_n (n := 3) (q := 166) (by decide +kernel) rfl ?_
                refine vx_isub (q := 167) (by decide +kernel) ?_
                refine vx_callL (i := .invokevirtual 371) (how := 3) (cm := 69) (np := 3) (q := 170) (args := [.ref 625, .int (vx_i v2), .int (vx_i (1 - 1))]) (rest := [.int (vx_i 1), .int (vx_i v2), .ref 625]) (by decide +kernel) rfl rfl rfl (vx_w2 (w := 3) (ml := 3) rfl (by decide +kernel)) (vx_rcv (kd := 9) (vx_Tk hT29 (by decide +kernel)) (by decide +kernel)) H (fun r33 h33 hr33 hs33 H => ?_)
                have hT33 := vx_Tsh hT29 hs33
                replace H := H hT33
                refine vx_callV (i := .invokevirtual 394) (how := 3) (cm := 75) (np := 4) (q := 173) (args := [.ref 625, .int (vx_i v2), .int (vx_i 1), .long (vx_l r33)]) (rest := []) (by decide +kernel) rfl rfl rfl (vx_w2 (w := 5) (ml := 6) rfl (by decide +kernel)) (vx_rcv (kd := 9) (vx_Tk hT33 (by decide +kernel)) (by decide +kernel)) H (fun h34 hs34 H => ?_)
                have hT34 := vx_Tsh hT33 hs34
                replace H := H hT34
                refine vx_iconst (n := 1) (q := 174) (by decide +kernel) ?_
                refine vx_istore_n (n := 1) (q := 175) (lv' := [some (.ref 625), some (.int (vx_i 1)), some (.int (vx_i v2)), some (.int (vx_i 1))]) (by decide +kernel) rfl ?_
                refine vx_iinc (n := 2) (m := 1) (x := v2) (q := 178) (lv' := [some (.ref 625), some (.int (vx_i 1)), some (.int (vx_i (v2 + 1))), some (.int (vx_i 1))]) (by decide +kernel) rfl rfl ?_
                refine vx_goto (off := (-153)) (q := 181) (t := 25) (by decide +kernel) ?_
                exact H
      · replace H := H.2 c21
        refine vx_aload_n (n := 0) (q := 66) (by decide +kernel) rfl ?_
        refine vx_iload_n (n := 2) (q := 67) (by decide +kernel) rfl ?_
        refine vx_iconst (n := 1) (q := 68) (by decide +kernel) ?_
        refine vx_callI (i := .invokevirtual 382) (how := 3) (cm := 68) (np := 3) (q := 71) (args := [.ref 625, .int (vx_i v2), .int (vx_i 1)]) (rest := []) (by decide +kernel) rfl rfl rfl (vx_w2 (w := 3) (ml := 3) rfl (by decide +kernel)) (vx_rcv (kd := 9) (vx_Tk hT20 (by decide +kernel)) (by decide +kernel)) H (fun r35 h35 hr35 hs35 H => ?_)
        have hT35 := vx_Tsh hT20 hs35
        replace H := H hT35
        refine vx_if0_eq (off := 37) (q := 74) (t := 108) (by decide +kernel) hr35 (fun c36 => ?_) (fun c36 => ?_)
        · replace H := H.1 c36
          refine vx_aload_n (n := 0) (q := 109) (by decide +kernel) rfl ?_
          refine vx_getR (b := 643) (idx := 62) (kd := 9) (s := 24) (fin := true) (q := 112) (by decide +kernel) (vx_Tk hT35 (by decide +kernel)) (vx_Tr hT35 (kd := 9) (by decide +kernel) (by decide +kernel) (by decide +kernel)) ?_
          refine vx_iload_n (n := 2) (q := 113) (by decide +kernel) rfl ?_
          obtain ⟨k37, H⟩ := H
          refine vx_iaload (z := 366) (q := 114) (by decide +kernel) (vx_Tk hT35 (by decide +kernel)) (vx_Tz hT35 (by decide +kernel)) (vx_ix k37 (by decide)) ?_
          refine vx_iconst (n := 2) (q := 115) (by decide +kernel) ?_
          refine vx_icmp_ne (off := 60) (q := 118) (t := 175) (by decide +kernel) (vx_rI_J h35 643 v2.toNat) (by decide) (fun c38 => ?_) (fun c38 => ?_)
          · replace H := H.1 c38
            refine vx_iinc (n := 2) (m := 1) (x := v2) (q := 178) (lv' := [some (.ref 625), some (.int (vx_i v1)), some (.int (vx_i (v2 + 1))), v3]) (by decide +kernel) rfl rfl ?_
            refine vx_goto (off := (-153)) (q := 181) (t := 25) (by decide +kernel) ?_
            exact H
          · replace H := H.2 c38
            refine vx_aload_n (n := 0) (q := 119) (by decide +kernel) rfl ?_
            refine vx_getR (b := 644) (idx := 65) (kd := 9) (s := 25) (fin := true) (q := 122) (by decide +kernel) (vx_Tk hT35 (by decide +kernel)) (vx_Tr hT35 (kd := 9) (by decide +kernel) (by decide +kernel) (by decide +kernel)) ?_
            refine vx_iload_n (n := 2) (q := 123) (by decide +kernel) rfl ?_
            obtain ⟨k39, H⟩ := H
            refine vx_iaload (z := 366) (q := 124) (by decide +kernel) (vx_Tk hT35 (by decide +kernel)) (vx_Tz hT35 (by decide +kernel)) (vx_ix k39 (by decide)) ?_
            refine vx_bipush (n := 61) (q := 126) (by decide +kernel) ?_
            refine vx_icmp_ne (off := 49) (q := 129) (t := 175) (by decide +kernel) (vx_rI_J h35 644 v2.toNat) (by decide) (fun c40 => ?_) (fun c40 => ?_)
            · replace H := H.1 c40
              refine vx_iinc (n := 2) (m := 1) (x := v2) (q := 178) (lv' := [some (.ref 625), some (.int (vx_i v1)), some (.int (vx_i (v2 + 1))), v3]) (by decide +kernel) rfl rfl ?_
              refine vx_goto (off := (-153)) (q := 181) (t := 25) (by decide +kernel) ?_
              exact H
            · replace H := H.2 c40
              refine vx_aload_n (n := 0) (q := 130) (by decide +kernel) rfl ?_
              refine vx_iload_n (n := 2) (q := 131) (by decide +kernel) rfl ?_
              refine vx_iconst (n := 0) (q := 132) (by decide +kernel) ?_
              refine vx_callI (i := .invokevirtual 382) (how := 3) (cm := 68) (np := 3) (q := 135) (args := [.ref 625, .int (vx_i v2), .int (vx_i 0)]) (rest := []) (by decide +kernel) rfl rfl rfl (vx_w2 (w := 3) (ml := 3) rfl (by decide +kernel)) (vx_rcv (kd := 9) (vx_Tk hT35 (by decide +kernel)) (by decide +kernel)) H (fun r41 h41 hr41 hs41 H => ?_)
              have hT41 := vx_Tsh hT35 hs41
              replace H := H hT41
              refine vx_aload_n (n := 0) (q := 136) (by decide +kernel) rfl ?_
              refine vx_iload_n (n := 2) (q := 137) (by decide +kernel) rfl ?_
              refine vx_iconst (n := 1) (q := 138) (by decide +kernel) ?_
              refine vx_callI (i := .invokevirtual 382) (how := 3) (cm := 68) (np := 3) (q := 141) (args := [.ref 625, .int (vx_i v2), .int (vx_i 1)]) (rest := [.int (vx_i r41)]) (by decide +kernel) rfl rfl rfl (vx_w2 (w := 3) (ml := 3) rfl (by decide +kernel)) (vx_rcv (kd := 9) (vx_Tk hT41 (by decide +kernel)) (by decide +kernel)) H (fun r42 h42 hr42 hs42 H => ?_)
              have hT42 := vx_Tsh hT41 hs42
              replace H := H hT42
              refine vx_icmp_eq (off := 34) (q := 144) (t := 175) (by decide +kernel) hr41 hr42 (fun c43 => ?_) (fun c43 => ?_)
              · replace H := H.1 c43
                refine vx_iinc (n := 2) (m := 1) (x := v2) (q := 178) (lv' := [some (.ref 625), some (.int (vx_i v1)), some (.int (vx_i (v2 + 1))), v3]) (by decide +kernel) rfl rfl ?_
                refine vx_goto (off := (-153)) (q := 181) (t := 25) (by decide +kernel) ?_
                exact H
              · replace H := H.2 c43
                refine vx_aload_n (n := 0) (q := 145) (by decide +kernel) rfl ?_
                refine vx_iload_n (n := 2) (q := 146) (by decide +kernel) rfl ?_
                refine vx_iconst (n := 0) (q := 147) (by decide +kernel) ?_
                refine vx_callI (i := .invokevirtual 382) (how := 3) (cm := 68) (np := 3) (q := 150) (args := [.ref 625, .int (vx_i v2), .int (vx_i 0)]) (rest := []) (by decide +kernel) rfl rfl rfl (vx_w2 (w := 3) (ml := 3) rfl (by decide +kernel)) (vx_rcv (kd := 9) (vx_Tk hT42 (by decide +kernel)) (by decide +kernel)) H (fun r44 h44 hr44 hs44 H => ?_)
                have hT44 := vx_Tsh hT42 hs44
                replace H := H hT44
                refine vx_if0_eq (off := 7) (q := 153) (t := 157) (by decide +kernel) hr44 (fun c45 => ?_) (fun c45 => ?_)
                · replace H := H.1 c45
                  refine vx_iconst (n := 0) (q := 158) (by decide +kernel) ?_
                  refine vx_istore_n (n := 3) (q := 159) (lv' := [some (.ref 625), some (.int (vx_i v1)), some (.int (vx_i v2)), some (.int (vx_i 0))]) (by decide +kernel) rfl ?_
                  refine vx_aload_n (n := 0) (q := 160) (by decide +kernel) rfl ?_
                  refine vx_iload_n (n := 2) (q := 161) (by decide +kernel) rfl ?_
                  refine vx_iload_n (n := 3) (q := 162) (by decide +kernel) rfl ?_
                  refine vx_aload_n (n := 0) (q := 163) (by decide +kernel) rfl ?_
                  refine vx_iload_n (n := 2) (q := 164) (by decide +kernel) rfl ?_
                  refine vx_iconst (n := 1) (q := 165) (by decide +kernel) ?_
                  refine vx_iload_n (n := 3) (q := 166) (by decide +kernel) rfl ?_
                  refine vx_isub (q := 167) (by decide +kernel) ?_
                  refine vx_callL (i := .invokevirtual 371) (how := 3) (cm := 69) (np := 3) (q := 170) (args := [.ref 625, .int (vx_i v2), .int (vx_i (1 - 0))]) (rest := [.int (vx_i 0), .int (vx_i v2), .ref 625]) (by decide +kernel) rfl rfl rfl (vx_w2 (w := 3) (ml := 3) rfl (by decide +kernel)) (vx_rcv (kd := 9) (vx_Tk hT44 (by decide +kernel)) (by decide +kernel)) H (fun r46 h46 hr46 hs46 H => ?_)
                  have hT46 := vx_Tsh hT44 hs46
                  replace H := H hT46
                  refine vx_callV (i := .invokevirtual 394) (how := 3) (cm := 75) (np := 4) (q := 173) (args := [.ref 625, .int (vx_i v2), .int (vx_i 0), .long (vx_l r46)]) (rest := []) (by decide +kernel) rfl rfl rfl (vx_w2 (w := 5) (ml := 6) rfl (by decide +kernel)) (vx_rcv (kd := 9) (vx_Tk hT46 (by decide +kernel)) (by decide +kernel)) H (fun h47 hs47 H => ?_)
                  have hT47 := vx_Tsh hT46 hs47
                  replace H := H hT47
                  refine vx_iconst (n := 1) (q := 174) (by decide +kernel) ?_
                  refine vx_istore_n (n := 1) (q := 175) (lv' := [some (.ref 625), some (.int (vx_i 1)), some (.int (vx_i v2)), some (.int (vx_i 0))]) (by decide +kernel) rfl ?_
                  refine vx_iinc (n := 2) (m := 1) (x := v2) (q := 178) (lv' := [some (.ref 625), some (.int (vx_i 1)), some (.int (vx_i (v2 + 1))), some (.int (vx_i 0))]) (by decide +kernel) rfl rfl ?_
                  refine vx_goto (off := (-153)) (q := 181) (t := 25) (by decide +kernel) ?_
                  exact H
                · replace H := H.2 c45
                  refine vx_iconst (n := 1) (q := 154) (by decide +kernel) ?_
                  refine vx_goto (off := 4) (q := 157) (t := 158) (by decide +kernel) ?_
                  refine vx_istore_n (n := 3) (q := 159) (lv' := [some (.ref 625), some (.int (vx_i v1)), some (.int (vx_i v2)), some (.int (vx_i 1))]) (by decide +kernel) rfl ?_
                  refine vx_aload_n (n := 0) (q := 160) (by decide +kernel) rfl ?_
                  refine vx_iload_n (n := 2) (q := 161) (by decide +kernel) rfl ?_
                  refine vx_iload_n (n := 3) (q := 162) (by decide +kernel) rfl ?_
                  refine vx_aload_n (n := 0) (q := 163) (by decide +kernel) rfl ?_
                  refine vx_iload_n (n := 2) (q := 164) (by decide +kernel) rfl ?_
                  refine vx_iconst (n := 1) (q := 165) (by decide +kernel) ?_
                  refine vx_iload_n (n := 3) (q := 166) (by decide +kernel) rfl ?_
                  refine vx_isub (q := 167) (by decide +kernel) ?_
                  refine vx_callL (i := .invokevirtual 371) (how := 3) (cm := 69) (np := 3) (q := 170) (args := [.ref 625, .int (vx_i v2), .int (vx_i (1 - 1))]) (rest := [.int (vx_i 1), .int (vx_i v2), .ref 625]) (by decide +kernel) rfl rfl rfl (vx_w2 (w := 3) (ml := 3) rfl (by decide +kernel)) (vx_rcv (kd := 9) (vx_Tk hT44 (by decide +kernel)) (by decide +kernel)) H (fun r48 h48 hr48 hs48 H => ?_)
                  have hT48 := vx_Tsh hT44 hs48
                  replace H := H hT48
                  refine vx_callV (i := .invokevirtual 394) (how := 3) (cm := 75) (np := 4) (q := 173) (args := [.ref 625, .int (vx_i v2), .int (vx_i 1), .long (vx_l r48)]) (rest := []) (by decide +kernel) rfl rfl rfl (vx_w2 (w := 5) (ml := 6) rfl (by decide +kernel)) (vx_rcv (kd := 9) (vx_Tk hT48 (by decide +kernel)) (by decide +kernel)) H (fun h49 hs49 H => ?_)
                  have hT49 := vx_Tsh hT48 hs49
                  replace H := H hT49
                  refine vx_iconst (n := 1) (q := 174) (by decide +kernel) ?_
                  refine vx_istore_n (n := 1) (q := 175) (lv' := [some (.ref 625), some (.int (vx_i 1)), some (.int (vx_i v2)), some (.int (vx_i 1))]) (by decide +kernel) rfl ?_
                  refine vx_iinc (n := 2) (m := 1) (x := v2) (q := 178) (lv' := [some (.ref 625), some (.int (vx_i 1)), some (.int (vx_i (v2 + 1))), some (.int (vx_i 1))]) (by decide +kernel) rfl rfl ?_
                  refine vx_goto (off := (-153)) (q := 181) (t := 25) (by decide +kernel) ?_
                  exact H
        · replace H := H.2 c36
          refine vx_aload_n (n := 0) (q := 75) (by decide +kernel) rfl ?_
          refine vx_iload_n (n := 2) (q := 76) (by decide +kernel) rfl ?_
          refine vx_iconst (n := 2) (q := 77) (by decide +kernel) ?_
          refine vx_callI (i := .invokevirtual 382) (how := 3) (cm := 68) (np := 3) (q := 80) (args := [.ref 625, .int (vx_i v2), .int (vx_i 2)]) (rest := []) (by decide +kernel) rfl rfl rfl (vx_w2 (w := 3) (ml := 3) rfl (by decide +kernel)) (vx_rcv (kd := 9) (vx_Tk hT35 (by decide +kernel)) (by decide +kernel)) H (fun r50 h50 hr50 hs50 H => ?_)
          have hT50 := vx_Tsh hT35 hs50
          replace H := H hT50
          refine vx_if0_eq (off := 28) (q := 83) (t := 108) (by decide +kernel) hr50 (fun c51 => ?_) (fun c51 => ?_)
          · replace H := H.1 c51
            refine vx_aload_n (n := 0) (q := 109) (by decide +kernel) rfl ?_
            refine vx_getR (b := 643) (idx := 62) (kd := 9) (s := 24) (fin := true) (q := 112) (by decide +kernel) (vx_Tk hT50 (by decide +kernel)) (vx_Tr hT50 (kd := 9) (by decide +kernel) (by decide +kernel) (by decide +kernel)) ?_
            refine vx_iload_n (n := 2) (q := 113) (by decide +kernel) rfl ?_
            obtain ⟨k52, H⟩ := H
            refine vx_iaload (z := 366) (q := 114) (by decide +kernel) (vx_Tk hT50 (by decide +kernel)) (vx_Tz hT50 (by decide +kernel)) (vx_ix k52 (by decide)) ?_
            refine vx_iconst (n := 2) (q := 115) (by decide +kernel) ?_
            refine vx_icmp_ne (off := 60) (q := 118) (t := 175) (by decide +kernel) (vx_rI_J h50 643 v2.toNat) (by decide) (fun c53 => ?_) (fun c53 => ?_)
            · replace H := H.1 c53
              refine vx_iinc (n := 2) (m := 1) (x := v2) (q := 178) (lv' := [some (.ref 625), some (.int (vx_i v1)), some (.int (vx_i (v2 + 1))), v3]) (by decide +kernel) rfl rfl ?_
              refine vx_goto (off := (-153)) (q := 181) (t := 25) (by decide +kernel) ?_
              exact H
            · replace H := H.2 c53
              refine vx_aload_n (n := 0) (q := 119) (by decide +kernel) rfl ?_
              refine vx_getR (b := 644) (idx := 65) (kd := 9) (s := 25) (fin := true) (q := 122) (by decide +kernel) (vx_Tk hT50 (by decide +kernel)) (vx_Tr hT50 (kd := 9) (by decide +kernel) (by decide +kernel) (by decide +kernel)) ?_
              refine vx_iload_n (n := 2) (q := 123) (by decide +kernel) rfl ?_
              obtain ⟨k54, H⟩ := H
              refine vx_iaload (z := 366) (q := 124) (by decide +kernel) (vx_Tk hT50 (by decide +kernel)) (vx_Tz hT50 (by decide +kernel)) (vx_ix k54 (by decide)) ?_
              refine vx_bipush (n := 61) (q := 126) (by decide +kernel) ?_
              refine vx_icmp_ne (off := 49) (q := 129) (t := 175) (by decide +kernel) (vx_rI_J h50 644 v2.toNat) (by decide) (fun c55 => ?_) (fun c55 => ?_)
              · replace H := H.1 c55
                refine vx_iinc (n := 2) (m := 1) (x := v2) (q := 178) (lv' := [some (.ref 625), some (.int (vx_i v1)), some (.int (vx_i (v2 + 1))), v3]) (by decide +kernel) rfl rfl ?_
                refine vx_goto (off := (-153)) (q := 181) (t := 25) (by decide +kernel) ?_
                exact H
              · replace H := H.2 c55
                refine vx_aload_n (n := 0) (q := 130) (by decide +kernel) rfl ?_
                refine vx_iload_n (n := 2) (q := 131) (by decide +kernel) rfl ?_
                refine vx_iconst (n := 0) (q := 132) (by decide +kernel) ?_
                refine vx_callI (i := .invokevirtual 382) (how := 3) (cm := 68) (np := 3) (q := 135) (args := [.ref 625, .int (vx_i v2), .int (vx_i 0)]) (rest := []) (by decide +kernel) rfl rfl rfl (vx_w2 (w := 3) (ml := 3) rfl (by decide +kernel)) (vx_rcv (kd := 9) (vx_Tk hT50 (by decide +kernel)) (by decide +kernel)) H (fun r56 h56 hr56 hs56 H => ?_)
                have hT56 := vx_Tsh hT50 hs56
                replace H := H hT56
                refine vx_aload_n (n := 0) (q := 136) (by decide +kernel) rfl ?_
                refine vx_iload_n (n := 2) (q := 137) (by decide +kernel) rfl ?_
                refine vx_iconst (n := 1) (q := 138) (by decide +kernel) ?_
                refine vx_callI (i := .invokevirtual 382) (how := 3) (cm := 68) (np := 3) (q := 141) (args := [.ref 625, .int (vx_i v2), .int (vx_i 1)]) (rest := [.int (vx_i r56)]) (by decide +kernel) rfl rfl rfl (vx_w2 (w := 3) (ml := 3) rfl (by decide +kernel)) (vx_rcv (kd := 9) (vx_Tk hT56 (by decide +kernel)) (by decide +kernel)) H (fun r57 h57 hr57 hs57 H => ?_)
                have hT57 := vx_Tsh hT56 hs57
                replace H := H hT57
                refine vx_icmp_eq (off := 34) (q := 144) (t := 175) (by decide +kernel) hr56 hr57 (fun c58 => ?_) (fun c58 => ?_)
                · replace H := H.1 c58
                  refine vx_iinc (n := 2) (m := 1) (x := v2) (q := 178) (lv' := [some (.ref 625), some (.int (vx_i v1)), some (.int (vx_i (v2 + 1))), v3]) (by decide +kernel) rfl rfl ?_
                  refine vx_goto (off := (-153)) (q := 181) (t := 25) (by decide +kernel) ?_
                  exact H
                · replace H := H.2 c58
                  refine vx_aload_n (n := 0) (q := 145) (by decide +kernel) rfl ?_
                  refine vx_iload_n (n := 2) (q := 146) (by decide +kernel) rfl ?_
                  refine vx_iconst (n := 0) (q := 147) (by decide +kernel) ?_
                  refine vx_callI (i := .invokevirtual 382) (how := 3) (cm := 68) (np := 3) (q := 150) (args := [.ref 625, .int (vx_i v2), .int (vx_i 0)]) (rest := []) (by decide +kernel) rfl rfl rfl (vx_w2 (w := 3) (ml := 3) rfl (by decide +kernel)) (vx_rcv (kd := 9) (vx_Tk hT57 (by decide +kernel)) (by decide +kernel)) H (fun r59 h59 hr59 hs59 H => ?_)
                  have hT59 := vx_Tsh hT57 hs59
                  replace H := H hT59
                  refine vx_if0_eq (off := 7) (q := 153) (t := 157) (by decide +kernel) hr59 (fun c60 => ?_) (fun c60 => ?_)
                  · replace H := H.1 c60
                    refine vx_iconst (n := 0) (q := 158) (by decide +kernel) ?_
                    refine vx_istore_n (n := 3) (q := 159) (lv' := [some (.ref 625), some (.int (vx_i v1)), some (.int (vx_i v2)), some (.int (vx_i 0))]) (by decide +kernel) rfl ?_
                    refine vx_aload_n (n := 0) (q := 160) (by decide +kernel) rfl ?_
                    refine vx_iload_n (n := 2) (q := 161) (by decide +kernel) rfl ?_
                    refine vx_iload_n (n := 3) (q := 162) (by decide +kernel) rfl ?_
                    refine vx_aload_n (n := 0) (q := 163) (by decide +kernel) rfl ?_
                    refine vx_iload_n (n := 2) (q := 164) (by decide +kernel) rfl ?_
                    refine vx_iconst (n := 1) (q := 165) (by decide +kernel) ?_
                    refine vx_iload_n (n := 3) (q := 166) (by decide +kernel) rfl ?_
                    refine vx_isub (q := 167) (by decide +kernel) ?_
                    refine vx_callL (i := .invokevirtual 371) (how := 3) (cm := 69) (np := 3) (q := 170) (args := [.ref 625, .int (vx_i v2), .int (vx_i (1 - 0))]) (rest := [.int (vx_i 0), .int (vx_i v2), .ref 625]) (by decide +kernel) rfl rfl rfl (vx_w2 (w := 3) (ml := 3) rfl (by decide +kernel)) (vx_rcv (kd := 9) (vx_Tk hT59 (by decide +kernel)) (by decide +kernel)) H (fun r61 h61 hr61 hs61 H => ?_)
                    have hT61 := vx_Tsh hT59 hs61
                    replace H := H hT61
                    refine vx_callV (i := .invokevirtual 394) (how := 3) (cm := 75) (np := 4) (q := 173) (args := [.ref 625, .int (vx_i v2), .int (vx_i 0), .long (vx_l r61)]) (rest := []) (by decide +kernel) rfl rfl rfl (vx_w2 (w := 5) (ml := 6) rfl (by decide +kernel)) (vx_rcv (kd := 9) (vx_Tk hT61 (by decide +kernel)) (by decide +kernel)) H (fun h62 hs62 H => ?_)
                    have hT62 := vx_Tsh hT61 hs62
                    replace H := H hT62
                    refine vx_iconst (n := 1) (q := 174) (by decide +kernel) ?_
                    refine vx_istore_n (n := 1) (q := 175) (lv' := [some (.ref 625), some (.int (vx_i 1)), some (.int (vx_i v2)), some (.int (vx_i 0))]) (by decide +kernel) rfl ?_
                    refine vx_iinc (n := 2) (m := 1) (x := v2) (q := 178) (lv' := [some (.ref 625), some (.int (vx_i 1)), some (.int (vx_i (v2 + 1))), some (.int (vx_i 0))]) (by decide +kernel) rfl rfl ?_
                    refine vx_goto (off := (-153)) (q := 181) (t := 25) (by decide +kernel) ?_
                    exact H
                  · replace H := H.2 c60
                    refine vx_iconst (n := 1) (q := 154) (by decide +kernel) ?_
                    refine vx_goto (off := 4) (q := 157) (t := 158) (by decide +kernel) ?_
                    refine vx_istore_n (n := 3) (q := 159) (lv' := [some (.ref 625), some (.int (vx_i v1)), some (.int (vx_i v2)), some (.int (vx_i 1))]) (by decide +kernel) rfl ?_
                    refine vx_aload_n (n := 0) (q := 160) (by decide +kernel) rfl ?_
                    refine vx_iload_n (n := 2) (q := 161) (by decide +kernel) rfl ?_
                    refine vx_iload_n (n := 3) (q := 162) (by decide +kernel) rfl ?_
                    refine vx_aload_n (n := 0) (q := 163) (by decide +kernel) rfl ?_
                    refine vx_iload_n (n := 2) (q := 164) (by decide +kernel) rfl ?_
                    refine vx_iconst (n := 1) (q := 165) (by decide +kernel) ?_
                    refine vx_iload_n (n := 3) (q := 166) (by decide +kernel) rfl ?_
                    refine vx_isub (q := 167) (by decide +kernel) ?_
                    refine vx_callL (i := .invokevirtual 371) (how := 3) (cm := 69) (np := 3) (q := 170) (args := [.ref 625, .int (vx_i v2), .int (vx_i (1 - 1))]) (rest := [.int (vx_i 1), .int (vx_i v2), .ref 625]) (by decide +kernel) rfl rfl rfl (vx_w2 (w := 3) (ml := 3) rfl (by decide +kernel)) (vx_rcv (kd := 9) (vx_Tk hT59 (by decide +kernel)) (by decide +kernel)) H (fun r63 h63 hr63 hs63 H => ?_)
                    have hT63 := vx_Tsh hT59 hs63
                    replace H := H hT63
                    refine vx_callV (i := .invokevirtual 394) (how := 3) (cm := 75) (np := 4) (q := 173) (args := [.ref 625, .int (vx_i v2), .int (vx_i 1), .long (vx_l r63)]) (rest := []) (by decide +kernel) rfl rfl rfl (vx_w2 (w := 5) (ml := 6) rfl (by decide +kernel)) (vx_rcv (kd := 9) (vx_Tk hT63 (by decide +kernel)) (by decide +kernel)) H (fun h64 hs64 H => ?_)
                    have hT64 := vx_Tsh hT63 hs64
                    replace H := H hT64
                    refine vx_iconst (n := 1) (q := 174) (by decide +kernel) ?_
                    refine vx_istore_n (n := 1) (q := 175) (lv' := [some (.ref 625), some (.int (vx_i 1)), some (.int (vx_i v2)), some (.int (vx_i 1))]) (by decide +kernel) rfl ?_
                    refine vx_iinc (n := 2) (m := 1) (x := v2) (q := 178) (lv' := [some (.ref 625), some (.int (vx_i 1)), some (.int (vx_i (v2 + 1))), some (.int (vx_i 1))]) (by decide +kernel) rfl rfl ?_
                    refine vx_goto (off := (-153)) (q := 181) (t := 25) (by decide +kernel) ?_
                    exact H
          · replace H := H.2 c51
            refine vx_aload_n (n := 0) (q := 84) (by decide +kernel) rfl ?_
            refine vx_iload_n (n := 2) (q := 85) (by decide +kernel) rfl ?_
            refine vx_callI (i := .invokevirtual 388) (how := 3) (cm := 73) (np := 2) (q := 88) (args := [.ref 625, .int (vx_i v2)]) (rest := []) (by decide +kernel) rfl rfl rfl (vx_w2 (w := 2) (ml := 8) rfl (by decide +kernel)) (vx_rcv (kd := 9) (vx_Tk hT50 (by decide +kernel)) (by decide +kernel)) H (fun r65 h65 hr65 hs65 H => ?_)
            have hT65 := vx_Tsh hT50 hs65
            replace H := H hT65
            refine vx_if0_ne (off := 5) (q := 91) (t := 93) (by decide +kernel) hr65 (fun c66 => ?_) (fun c66 => ?_)
            · replace H := H.1 c66
              refine vx_aload_n (n := 0) (q := 94) (by decide +kernel) rfl ?_
              refine vx_iload_n (n := 2) (q := 95) (by decide +kernel) rfl ?_
              refine vx_iconst (n := 0) (q := 96) (by decide +kernel) ?_
              refine vx_aload_n (n := 0) (q := 97) (by decide +kernel) rfl ?_
              refine vx_getL (idx := 379) (kd := 9) (s := 69) (fin := false) (q := 100) (by decide +kernel) (vx_Tk hT65 (by decide +kernel)) ?_
              refine vx_callV (i := .invokevirtual 394) (how := 3) (cm := 75) (np := 4) (q := 103) (args := [.ref 625, .int (vx_i v2), .int (vx_i 0), .long (vx_l (vx_K h65 625 69))]) (rest := []) (by decide +kernel) rfl rfl rfl (vx_w2 (w := 5) (ml := 6) rfl (by decide +kernel)) (vx_rcv (kd := 9) (vx_Tk hT65 (by decide +kernel)) (by decide +kernel)) H (fun h67 hs67 H => ?_)
              have hT67 := vx_Tsh hT65 hs67
              replace H := H hT67
              refine vx_iconst (n := 1) (q := 104) (by decide +kernel) ?_
              refine vx_istore_n (n := 1) (q := 105) (lv' := [some (.ref 625), some (.int (vx_i 1)), some (.int (vx_i v2)), v3]) (by decide +kernel) rfl ?_
              refine vx_goto (off := 70) (q := 108) (t := 175) (by decide +kernel) ?_
              refine vx_iinc (n := 2) (m := 1) (x := v2) (q := 178) (lv' := [some (.ref 625), some (.int (vx_i 1)), some (.int (vx_i (v2 + 1))), v3]) (by decide +kernel) rfl rfl ?_
              refine vx_goto (off := (-153)) (q := 181) (t := 25) (by decide +kernel) ?_
              exact H
            · replace H := H.2 c66
              refine vx_iconst (n := 0) (q := 92) (by decide +kernel) ?_
              refine vx_retZ (q := 93) (by decide +kernel) (Or.inl rfl) ?_
              exact H
theorem vg_76_192 {d : Nat} {h : ve_H} {P : Int → ve_H → Prop} {v1 : Int} {v2 : Int} {v3 : Option Value} (hT : vx_T 625 672 h) (H : (0 ≤ (vx_J h 625 42) ∧ (vx_J h 625 42) < 61) ∧ (vx_rI v2) ∧ (vx_rI ((6 * (vx_J h 625 42)) + (vx_J h 641 (vx_J h 625 42).toNat))) ∧ ((((6 * (vx_J h 625 42)) + (vx_J h 641 (vx_J h 625 42).toNat)) ≤ v2 → P 1 h) ∧ (v2 < ((6 * (vx_J h 625 42)) + (vx_J h 641 (vx_J h 625 42).toNat)) → (0 ≤ v2 ∧ v2 < 366) ∧ (((vx_J h 643 v2.toNat) = 1 → vx_W (d + 1) 76 228 [some (.ref 625), some (.int (vx_i v1)), some (.int (vx_i v2)), some (.int (vx_i 0))] [] h (vx_RI P)) ∧ ((vx_J h 643 v2.toNat) ≠ 1 → vx_W (d + 1) 76 192 [some (.ref 625), some (.int (vx_i v1)), some (.int (vx_i (v2 + 1))), v3] [] h (vx_RI P)))))) : vx_W (d + 1) 76 192 [some (.ref 625), some (.int (vx_i v1)), some (.int (vx_i v2)), v3] [] h (vx_RI P) := by
  refine vx_iload_n (n := 2) (q := 193) (by decide +kernel) rfl ?_
  refine vx_bipush (n := 6) (q := 195) (by decide +kernel) ?_
  refine vx_aload_n (n := 0) (q := 196) (by decide +kernel) rfl ?_
  refine vx_getI (idx := 223) (kd := 9) (s := 42) (fin := false) (q := 199) (by decide +kernel) (vx_Tk hT (by decide +kernel)) ?_
  refine vx_imul (q := 200) (by decide +kernel) ?_
  refine vx_aload_n (n := 0) (q := 201) (by decide +kernel) rfl ?_
  refine vx_getR (b := 641) (idx := 56) (kd := 9) (s := 22) (fin := true) (q := 204) (by decide +kernel) (vx_Tk hT (by decide +kernel)) (vx_Tr hT (kd := 9) (by decide +kernel) (by decide +kernel) (by decide +kernel)) ?_
  refine vx_aload_n (n := 0) (q := 205) (by decide +kernel) rfl ?_
  refine vx_getI (idx := 223) (kd := 9) (s := 42) (fin := false) (q := 208) (by decide +kernel) (vx_Tk hT (by decide +kernel)) ?_
  obtain ⟨k1, H⟩ := H
  refine vx_iaload (z := 61) (q := 209) (by decide +kernel) (vx_Tk hT (by decide +kernel)) (vx_Tz hT (by decide +kernel)) (vx_ix k1 (by decide)) ?_
  refine vx_iadd (q := 210) (by decide +kernel) ?_
  obtain ⟨k2, H⟩ := H
  obtain ⟨k3, H⟩ := H
  refine vx_icmp_ge (off := 49) (q := 213) (t := 259) (by decide +kernel) k2 k3 (fun c4 => ?_) (fun c4 => ?_)
  · replace H := H.1 c4
    refine vx_iconst (n := 1) (q := 260) (by decide +kernel) ?_
    refine vx_retZ (q := 261) (by decide +kernel) (Or.inr rfl) ?_
    exact H
  · replace H := H.2 c4
    refine vx_aload_n (n := 0) (q := 214) (by decide +kernel) rfl ?_
    refine vx_getR (b := 643) (idx := 62) (kd := 9) (s := 24) (fin := true) (q := 217) (by decide +kernel) (vx_Tk hT (by decide +kernel)) (vx_Tr hT (kd := 9) (by decide +kernel) (by decide +kernel) (by decide +kernel)) ?_
    refine vx_iload_n (n := 2) (q := 218) (by decide +kernel) rfl ?_
    obtain ⟨k5, H⟩ := H
    refine vx_iaload (z := 366) (q := 219) (by decide +kernel) (vx_Tk hT (by decide +kernel)) (vx_Tz hT (by decide +kernel)) (vx_ix k5 (by decide)) ?_
    refine vx_iconst (n := 1) (q := 220) (by decide +kernel) ?_
    refine vx_icmp_eq (off := 6) (q := 223) (t := 226) (by decide +kernel) (vx_rI_J h 643 v2.toNat) (by decide) (fun c6 => ?_) (fun c6 => ?_)
    · replace H := H.1 c6
      refine vx_iconst (n := 0) (q := 227) (by decide +kernel) ?_
      refine vx_istore_n (n := 3) (q := 228) (lv' := [some (.ref 625), some (.int (vx_i v1)), some (.int (vx_i v2)), some (.int (vx_i 0))]) (by decide +kernel) rfl ?_
      exact H
    · replace H := H.2 c6
      refine vx_goto (off := 30) (q := 226) (t := 253) (by decide +kernel) ?_
      refine vx_iinc (n := 2) (m := 1) (x := v2) (q := 256) (lv' := [some (.ref 625), some (.int (vx_i v1)), some (.int (vx_i (v2 + 1))), v3]) (by decide +kernel) rfl rfl ?_
      refine vx_goto (off := (-64)) (q := 259) (t := 192) (by decide +kernel) ?_
      exact H
theorem vg_76_228 {d : Nat} {h : ve_H} {P : Int → ve_H → Prop} {v1 : Int} {v2 : Int} {v3 : Int} (hT : vx_T 625 672 h) (H : (vx_rI v3) ∧ (((vx_J h 625 65) ≤ v3 → vx_W (d + 1) 76 192 [some (.ref 625), some (.int (vx_i v1)), some (.int (vx_i (v2 + 1))), some (.int (vx_i v3))] [] h (vx_RI P)) ∧ (v3 < (vx_J h 625 65) → vx_CI d 70 [.ref 625, .int (vx_i v3), .int (vx_i v2)] h (fun r3 h3 => vx_T 625 672 h3 → ((r3 = 0 → vx_W (d + 1) 76 228 [some (.ref 625), some (.int (vx_i v1)), some (.int (vx_i v2)), some (.int (vx_i (v3 + 1)))] [] h3 (vx_RI P)) ∧ (r3 ≠ 0 → P 0 h3)))))) : vx_W (d + 1) 76 228 [some (.ref 625), some (.int (vx_i v1)), some (.int (vx_i v2)), some (.int (vx_i v3))] [] h (vx_RI P) := by
  refine vx_iload_n (n := 3) (q := 229) (by decide +kernel) rfl ?_
  refine vx_aload_n (n := 0) (q := 230) (by decide +kernel) rfl ?_
  refine vx_getI (idx := 398) (kd := 9) (s := 65) (fin := false) (q := 233) (by decide +kernel) (vx_Tk hT (by decide +kernel)) ?_
  obtain ⟨k1, H⟩ := H
  refine vx_icmp_ge (off := 20) (q := 236) (t := 253) (by decide +kernel) k1 (vx_rI_J h 625 65) (fun c2 => ?_) (fun c2 => ?_)
  · replace H := H.1 c2
    refine vx_iinc (n := 2) (m := 1) (x := v2) (q := 256) (lv' := [some (.ref 625), some (.int (vx_i v1)), some (.int (vx_i (v2 + 1))), some (.int (vx_i v3))]) (by decide +kernel) rfl rfl ?_
    refine vx_goto (off := (-64)) (q := 259) (t := 192) (by decide +kernel) ?_
    exact H
  · replace H := H.2 c2
    refine vx_aload_n (n := 0) (q := 237) (by decide +kernel) rfl ?_
    refine vx_iload_n (n := 3) (q := 238) (by decide +kernel) rfl ?_
    refine vx_iload_n (n := 2) (q := 239) (by decide +kernel) rfl ?_
    refine vx_callI (i := .invokevirtual 401) (how := 3) (cm := 70) (np := 3) (q := 242) (args := [.ref 625, .int (vx_i v3), .int (vx_i v2)]) (rest := []) (by decide +kernel) rfl rfl rfl (vx_w2 (w := 3) (ml := 5) rfl (by decide +kernel)) (vx_rcv (kd := 9) (vx_Tk hT (by decide +kernel)) (by decide +kernel)) H (fun r3 h3 hr3 hs3 H => ?_)
    have hT3 := vx_Tsh hT hs3
    replace H := H hT3
    refine vx_if0_eq (off := 5) (q := 245) (t := 247) (by decide +kernel) hr3 (fun c4 => ?_) (fun c4 => ?_)
    · replace H := H.1 c4
      refine vx_iinc (n := 3) (m := 1) (x := v3) (q := 250) (lv' := [some (.ref 625), some (.int (vx_i v1)), some (.int (vx_i v2)), some (.int (vx_i (v3 + 1)))]) (by decide +kernel) rfl rfl ?_
      refine vx_goto (off := (-22)) (q := 253) (t := 228) (by decide +kernel) ?_
      exact H
    · replace H := H.2 c4
      refine vx_iconst (n := 0) (q := 246) (by decide +kernel) ?_
      refine vx_retZ (q := 247) (by decide +kernel) (Or.inl rfl) ?_
      exact H
-- RuleHouseModel.keep(I)V
theorem vg_77 {d : Nat} {h : ve_H} {P : ve_H → Prop} {x1 : Int} (hT : vx_T 625 672 h) (H : vx_W d 77 2 [some (.ref 625), some (.int (vx_i x1)), some (.int (vx_i 0))] [] h (vx_RV P)) : vx_CV d 77 [.ref 625, .int (vx_i x1)] h P := by
  refine vx_enter (ml := 3) (by decide +kernel) ?_
  show vx_W _ _ 0 [some (.ref 625), some (.int (vx_i x1)), none] [] h _
  refine vx_iconst (n := 0) (q := 1) (by decide +kernel) ?_
  refine vx_istore_n (n := 2) (q := 2) (lv' := [some (.ref 625), some (.int (vx_i x1)), some (.int (vx_i 0))]) (by decide +kernel) rfl ?_
  exact H
theorem vg_77_2 {d : Nat} {h : ve_H} {P : ve_H → Prop} {v1 : Int} {v2 : Int} (hT : vx_T 625 672 h) (H : (vx_rI v2) ∧ ((9 ≤ v2 → P h) ∧ (v2 < 9 → (0 ≤ v2 ∧ v2 < 9) ∧ (0 ≤ ((9 * v1) + v2) ∧ ((9 * v1) + v2) < 36) ∧ ((vx_J h 664 v2.toNat) = 0 ∨ (vx_J h 664 v2.toNat) = 1) ∧ (∀ h6, h6 = vx_sJ h 667 ((9 * v1) + v2).toNat (vx_J h 664 v2.toNat) → vx_T 625 672 h6 → (0 ≤ v2 ∧ v2 < 9) ∧ (0 ≤ ((9 * v1) + v2) ∧ ((9 * v1) + v2) < 36) ∧ (∀ h9, h9 = vx_sK h6 668 ((9 * v1) + v2).toNat (vx_K h6 665 v2.toNat) → vx_T 625 672 h9 → vx_W d 77 2 [some (.ref 625), some (.int (vx_i v1)), some (.int (vx_i (v2 + 1)))] [] h9 (vx_RV P)))))) : vx_W d 77 2 [some (.ref 625), some (.int (vx_i v1)), some (.int (vx_i v2))] [] h (vx_RV P) := by
  refine vx_iload_n (n := 2) (q := 3) (by decide +kernel) rfl ?_
  refine vx_bipush (n := 9) (q := 5) (by decide +kernel) ?_
  obtain ⟨k1, H⟩ := H
  refine vx_icmp_ge (off := 43) (q := 8) (t := 48) (by decide +kernel) k1 (by decide) (fun c2 => ?_) (fun c2 => ?_)
  · replace H := H.1 c2
    refine vx_retV (q := 49) (by decide +kernel) ?_
    exact H
  · replace H := H.2 c2
    refine vx_aload_n (n := 0) (q := 9) (by decide +kernel) rfl ?_
    refine vx_getR (b := 667) (idx := 139) (kd := 9) (s := 72) (fin := true) (q := 12) (by decide +kernel) (vx_Tk hT (by decide +kernel)) (vx_Tr hT (kd := 9) (by decide +kernel) (by decide +kernel) (by decide +kernel)) ?_
    refine vx_bipush (n := 9) (q := 14) (by decide +kernel) ?_
    refine vx_iload_n (n := 1) (q := 15) (by decide +kernel) rfl ?_
    refine vx_imul (q := 16) (by decide +kernel) ?_
    refine vx_iload_n (n := 2) (q := 17) (by decide +kernel) rfl ?_
    refine vx_iadd (q := 18) (by decide +kernel) ?_
    refine vx_aload_n (n := 0) (q := 19) (by decide +kernel) rfl ?_
    refine vx_getR (b := 664) (idx := 130) (kd := 9) (s := 63) (fin := true) (q := 22) (by decide +kernel) (vx_Tk hT (by decide +kernel)) (vx_Tr hT (kd := 9) (by decide +kernel) (by decide +kernel) (by decide +kernel)) ?_
    refine vx_iload_n (n := 2) (q := 23) (by decide +kernel) rfl ?_
    obtain ⟨k3, H⟩ := H
    refine vx_zaload (z := 9) (q := 24) (by decide +kernel) (vx_Tk hT (by decide +kernel)) (vx_Tz hT (by decide +kernel)) (vx_ix k3 (by decide)) ?_
    obtain ⟨k4, H⟩ := H
    obtain ⟨k5, H⟩ := H
    refine vx_zastore (z := 36) (q := 25) (by decide +kernel) (vx_Tk hT (by decide +kernel)) (vx_Tz hT (by decide +kernel)) (vx_ix k4 (by decide)) k5 (fun h6 e6 => ?_)
    have hT6 := vx_TJ hT e6
    replace H := H h6 e6 hT6
    refine vx_aload_n (n := 0) (q := 26) (by decide +kernel) rfl ?_
    refine vx_getR (b := 668) (idx := 142) (kd := 9) (s := 73) (fin := true) (q := 29) (by decide +kernel) (vx_Tk hT6 (by decide +kernel)) (vx_Tr hT6 (kd := 9) (by decide +kernel) (by decide +kernel) (by decide +kernel)) ?_
    refine vx_bipush (n := 9) (q := 31) (by decide +kernel) ?_
    refine vx_iload_n (n := 1) (q := 32) (by decide +kernel) rfl ?_
    refine vx_imul (q := 33) (by decide +kernel) ?_
    refine vx_iload_n (n := 2) (q := 34) (by decide +kernel) rfl ?_
    refine vx_iadd (q := 35) (by decide +kernel) ?_
    refine vx_aload_n (n := 0) (q := 36) (by decide +kernel) rfl ?_
    refine vx_getR (b := 665) (idx := 133) (kd := 9) (s := 64) (fin := true) (q := 39) (by decide +kernel) (vx_Tk hT6 (by decide +kernel)) (vx_Tr hT6 (kd := 9) (by decide +kernel) (by decide +kernel) (by decide +kernel)) ?_
    refine vx_iload_n (n := 2) (q := 40) (by decide +kernel) rfl ?_
    obtain ⟨k7, H⟩ := H
    refine vx_laload (z := 9) (q := 41) (by decide +kernel) (vx_Tk hT6 (by decide +kernel)) (vx_Tz hT6 (by decide +kernel)) (vx_ix k7 (by decide)) ?_
    obtain ⟨k8, H⟩ := H
    refine vx_lastore (z := 36) (q := 42) (by decide +kernel) (vx_Tk hT6 (by decide +kernel)) (vx_Tz hT6 (by decide +kernel)) (vx_ix k8 (by decide)) (fun h9 e9 => ?_)
    have hT9 := vx_TK hT6 e9
    replace H := H h9 e9 hT9
    refine vx_iinc (n := 2) (m := 1) (x := v2) (q := 45) (lv' := [some (.ref 625), some (.int (vx_i v1)), some (.int (vx_i (v2 + 1)))]) (by decide +kernel) rfl rfl ?_
    refine vx_goto (off := (-43)) (q := 48) (t := 2) (by decide +kernel) ?_
    exact H
-- RuleHouseModel.restore(I)V
theorem vg_78 {d : Nat} {h : ve_H} {P : ve_H → Prop} {x1 : Int} (hT : vx_T 625 672 h) (H : vx_W d 78 2 [some (.ref 625), some (.int (vx_i x1)), some (.int (vx_i 0))] [] h (vx_RV P)) : vx_CV d 78 [.ref 625, .int (vx_i x1)] h P := by
  refine vx_enter (ml := 3) (by decide +kernel) ?_
  show vx_W _ _ 0 [some (.ref 625), some (.int (vx_i x1)), none] [] h _
  refine vx_iconst (n := 0) (q := 1) (by decide +kernel) ?_
  refine vx_istore_n (n := 2) (q := 2) (lv' := [some (.ref 625), some (.int (vx_i x1)), some (.int (vx_i 0))]) (by decide +kernel) rfl ?_
  exact H
theorem vg_78_2 {d : Nat} {h : ve_H} {P : ve_H → Prop} {v1 : Int} {v2 : Int} (hT : vx_T 625 672 h) (H : (vx_rI v2) ∧ ((9 ≤ v2 → P h) ∧ (v2 < 9 → (0 ≤ ((9 * v1) + v2) ∧ ((9 * v1) + v2) < 36) ∧ (0 ≤ v2 ∧ v2 < 9) ∧ ((vx_J h 667 ((9 * v1) + v2).toNat) = 0 ∨ (vx_J h 667 ((9 * v1) + v2).toNat) = 1) ∧ (∀ h6, h6 = vx_sJ h 664 v2.toNat (vx_J h 667 ((9 * v1) + v2).toNat) → vx_T 625 672 h6 → (0 ≤ ((9 * v1) + v2) ∧ ((9 * v1) + v2) < 36) ∧ (0 ≤ v2 ∧ v2 < 9) ∧ (∀ h9, h9 = vx_sK h6 665 v2.toNat (vx_K h6 668 ((9 * v1) + v2).toNat) → vx_T 625 672 h9 → vx_W d 78 2 [some (.ref 625), some (.int (vx_i v1)), some (.int (vx_i (v2 + 1)))] [] h9 (vx_RV P)))))) : vx_W d 78 2 [some (.ref 625), some (.int (vx_i v1)), some (.int (vx_i v2))] [] h (vx_RV P) := by
  refine vx_iload_n (n := 2) (q := 3) (by decide +kernel) rfl ?_
  refine vx_bipush (n := 9) (q := 5) (by decide +kernel) ?_
  obtain ⟨k1, H⟩ := H
  refine vx_icmp_ge (off := 43) (q := 8) (t := 48) (by decide +kernel) k1 (by decide) (fun c2 => ?_) (fun c2 => ?_)
  · replace H := H.1 c2
    refine vx_retV (q := 49) (by decide +kernel) ?_
    exact H
  · replace H := H.2 c2
    refine vx_aload_n (n := 0) (q := 9) (by decide +kernel) rfl ?_
    refine vx_getR (b := 664) (idx := 130) (kd := 9) (s := 63) (fin := true) (q := 12) (by decide +kernel) (vx_Tk hT (by decide +kernel)) (vx_Tr hT (kd := 9) (by decide +kernel) (by decide +kernel) (by decide +kernel)) ?_
    refine vx_iload_n (n := 2) (q := 13) (by decide +kernel) rfl ?_
    refine vx_aload_n (n := 0) (q := 14) (by decide +kernel) rfl ?_
    refine vx_getR (b := 667) (idx := 139) (kd := 9) (s := 72) (fin := true) (q := 17) (by decide +kernel) (vx_Tk hT (by decide +kernel)) (vx_Tr hT (kd := 9) (by decide +kernel) (by decide +kernel) (by decide +kernel)) ?_
    refine vx_bipush (n := 9) (q := 19) (by decide +kernel) ?_
    refine vx_iload_n (n := 1) (q := 20) (by decide +kernel) rfl ?_
    refine vx_imul (q := 21) (by decide +kernel) ?_
    refine vx_iload_n (n := 2) (q := 22) (by decide +kernel) rfl ?_
    refine vx_iadd (q := 23) (by decide +kernel) ?_
    obtain ⟨k3, H⟩ := H
    refine vx_zaload (z := 36) (q := 24) (by decide +kernel) (vx_Tk hT (by decide +kernel)) (vx_Tz hT (by decide +kernel)) (vx_ix k3 (by decide)) ?_
    obtain ⟨k4, H⟩ := H
    obtain ⟨k5, H⟩ := H
    refine vx_zastore (z := 9) (q := 25) (by decide +kernel) (vx_Tk hT (by decide +kernel)) (vx_Tz hT (by decide +kernel)) (vx_ix k4 (by decide)) k5 (fun h6 e6 => ?_)
    have hT6 := vx_TJ hT e6
    replace H := H h6 e6 hT6
    refine vx_aload_n (n := 0) (q := 26) (by decide +kernel) rfl ?_
    refine vx_getR (b := 665) (idx := 133) (kd := 9) (s := 64) (fin := true) (q := 29) (by decide +kernel) (vx_Tk hT6 (by decide +kernel)) (vx_Tr hT6 (kd := 9) (by decide +kernel) (by decide +kernel) (by decide +kernel)) ?_
    refine vx_iload_n (n := 2) (q := 30) (by decide +kernel) rfl ?_
    refine vx_aload_n (n := 0) (q := 31) (by decide +kernel) rfl ?_
    refine vx_getR (b := 668) (idx := 142) (kd := 9) (s := 73) (fin := true) (q := 34) (by decide +kernel) (vx_Tk hT6 (by decide +kernel)) (vx_Tr hT6 (kd := 9) (by decide +kernel) (by decide +kernel) (by decide +kernel)) ?_
    refine vx_bipush (n := 9) (q := 36) (by decide +kernel) ?_
    refine vx_iload_n (n := 1) (q := 37) (by decide +kernel) rfl ?_
    refine vx_imul (q := 38) (by decide +kernel) ?_
    refine vx_iload_n (n := 2) (q := 39) (by decide +kernel) rfl ?_
    refine vx_iadd (q := 40) (by decide +kernel) ?_
    obtain ⟨k7, H⟩ := H
    refine vx_laload (z := 36) (q := 41) (by decide +kernel) (vx_Tk hT6 (by decide +kernel)) (vx_Tz hT6 (by decide +kernel)) (vx_ix k7 (by decide)) ?_
    obtain ⟨k8, H⟩ := H
    refine vx_lastore (z := 9) (q := 42) (by decide +kernel) (vx_Tk hT6 (by decide +kernel)) (vx_Tz hT6 (by decide +kernel)) (vx_ix k8 (by decide)) (fun h9 e9 => ?_)
    have hT9 := vx_TK hT6 e9
    replace H := H h9 e9 hT9
    refine vx_iinc (n := 2) (m := 1) (x := v2) (q := 45) (lv' := [some (.ref 625), some (.int (vx_i v1)), some (.int (vx_i (v2 + 1)))]) (by decide +kernel) rfl rfl ?_
    refine vx_goto (off := (-43)) (q := 48) (t := 2) (by decide +kernel) ?_
    exact H
-- RuleHouseModel.ways(I)V
theorem vg_79 {d : Nat} {h : ve_H} {P : ve_H → Prop} {x1 : Int} (hT : vx_T 625 672 h) (H : (∀ h1, h1 = vx_sJ h 625 42 x1 → vx_T 625 672 h1 → (∀ h2, h2 = vx_sJ h1 625 70 0 → vx_T 625 672 h2 → vx_W (d + 1) 79 15 [some (.ref 625), some (.int (vx_i x1)), some (.int (vx_i (6 * x1)))] [] h2 (vx_RV P)))) : vx_CV (d + 1) 79 [.ref 625, .int (vx_i x1)] h P := by
  refine vx_enter (ml := 3) (by decide +kernel) ?_
  show vx_W _ _ 0 [some (.ref 625), some (.int (vx_i x1)), none] [] h _
  refine vx_aload_n (n := 0) (q := 1) (by decide +kernel) rfl ?_
  refine vx_iload_n (n := 1) (q := 2) (by decide +kernel) rfl ?_
  refine vx_putI (idx := 223) (kd := 9) (s := 42) (fin := false) (q := 5) (by decide +kernel) (vx_Tk hT (by decide +kernel)) (fun h1 e1 => ?_)
  have hT1 := vx_TJ hT e1
  replace H := H h1 e1 hT1
  refine vx_aload_n (n := 0) (q := 6) (by decide +kernel) rfl ?_
  refine vx_iconst (n := 0) (q := 7) (by decide +kernel) ?_
  refine vx_putI (idx := 404) (kd := 9) (s := 70) (fin := false) (q := 10) (by decide +kernel) (vx_Tk hT1 (by decide +kernel)) (fun h2 e2 => ?_)
  have hT2 := vx_TJ hT1 e2
  replace H := H h2 e2 hT2
  refine vx_bipush (n := 6) (q := 12) (by decide +kernel) ?_
  refine vx_iload_n (n := 1) (q := 13) (by decide +kernel) rfl ?_
  refine vx_imul (q := 14) (by decide +kernel) ?_
  refine vx_istore_n (n := 2) (q := 15) (lv' := [some (.ref 625), some (.int (vx_i x1)), some (.int (vx_i (6 * x1)))]) (by decide +kernel) rfl ?_
  exact H
theorem vg_79_15 {d : Nat} {h : ve_H} {P : ve_H → Prop} {v1 : Int} {v2 : Int} (hT : vx_T 625 672 h) (H : (0 ≤ v1 ∧ v1 < 61) ∧ (vx_rI v2) ∧ (vx_rI ((6 * v1) + (vx_J h 641 v1.toNat))) ∧ ((((6 * v1) + (vx_J h 641 v1.toNat)) ≤ v2 → vx_W (d + 1) 79 70 [some (.ref 625), some (.int (vx_i v1)), some (.int (vx_i 0))] [] h (vx_RV P)) ∧ (v2 < ((6 * v1) + (vx_J h 641 v1.toNat)) → (0 ≤ v2 ∧ v2 < 366) ∧ (((vx_J h 643 v2.toNat) = 0 → (0 ≤ (vx_J h 625 70) ∧ (vx_J h 625 70) < 3) ∧ (∀ h8, h8 = vx_sJ h 666 (vx_J h 625 70).toNat v2 → vx_T 625 672 h8 → (∀ h9, h9 = vx_sJ h8 625 70 ((vx_J h8 625 70) + 1) → vx_T 625 672 h9 → vx_W (d + 1) 79 15 [some (.ref 625), some (.int (vx_i v1)), some (.int (vx_i (v2 + 1)))] [] h9 (vx_RV P)))) ∧ ((vx_J h 643 v2.toNat) ≠ 0 → vx_W (d + 1) 79 15 [some (.ref 625), some (.int (vx_i v1)), some (.int (vx_i (v2 + 1)))] [] h (vx_RV P)))))) : vx_W (d + 1) 79 15 [some (.ref 625), some (.int (vx_i v1)), some (.int (vx_i v2))] [] h (vx_RV P) := by
  refine vx_iload_n (n := 2) (q := 16) (by decide +kernel) rfl ?_
  refine vx_bipush (n := 6) (q := 18) (by decide +kernel) ?_
  refine vx_iload_n (n := 1) (q := 19) (by decide +kernel) rfl ?_
  refine vx_imul (q := 20) (by decide +kernel) ?_
  refine vx_aload_n (n := 0) (q := 21) (by decide +kernel) rfl ?_
  refine vx_getR (b := 641) (idx := 56) (kd := 9) (s := 22) (fin := true) (q := 24) (by decide +kernel) (vx_Tk hT (by decide +kernel)) (vx_Tr hT (kd := 9) (by decide +kernel) (by decide +kernel) (by decide +kernel)) ?_
  refine vx_iload_n (n := 1) (q := 25) (by decide +kernel) rfl ?_
  obtain ⟨k1, H⟩ := H
  refine vx_iaload (z := 61) (q := 26) (by decide +kernel) (vx_Tk hT (by decide +kernel)) (vx_Tz hT (by decide +kernel)) (vx_ix k1 (by decide)) ?_
  refine vx_iadd (q := 27) (by decide +kernel) ?_
  obtain ⟨k2, H⟩ := H
  obtain ⟨k3, H⟩ := H
  refine vx_icmp_ge (off := 41) (q := 30) (t := 68) (by decide +kernel) k2 k3 (fun c4 => ?_) (fun c4 => ?_)
  · replace H := H.1 c4
    refine vx_iconst (n := 0) (q := 69) (by decide +kernel) ?_
    refine vx_istore_n (n := 2) (q := 70) (lv' := [some (.ref 625), some (.int (vx_i v1)), some (.int (vx_i 0))]) (by decide +kernel) rfl ?_
    exact H
  · replace H := H.2 c4
    refine vx_aload_n (n := 0) (q := 31) (by decide +kernel) rfl ?_
    refine vx_getR (b := 643) (idx := 62) (kd := 9) (s := 24) (fin := true) (q := 34) (by decide +kernel) (vx_Tk hT (by decide +kernel)) (vx_Tr hT (kd := 9) (by decide +kernel) (by decide +kernel) (by decide +kernel)) ?_
    refine vx_iload_n (n := 2) (q := 35) (by decide +kernel) rfl ?_
    obtain ⟨k5, H⟩ := H
    refine vx_iaload (z := 366) (q := 36) (by decide +kernel) (vx_Tk hT (by decide +kernel)) (vx_Tz hT (by decide +kernel)) (vx_ix k5 (by decide)) ?_
    refine vx_if0_eq (off := 6) (q := 39) (t := 42) (by decide +kernel) (vx_rI_J h 643 v2.toNat) (fun c6 => ?_) (fun c6 => ?_)
    · replace H := H.1 c6
      refine vx_aload_n (n := 0) (q := 43) (by decide +kernel) rfl ?_
      refine vx_getR (b := 666) (idx := 136) (kd := 9) (s := 71) (fin := true) (q := 46) (by decide +kernel) (vx_Tk hT (by decide +kernel)) (vx_Tr hT (kd := 9) (by decide +kernel) (by decide +kernel) (by decide +kernel)) ?_
      refine vx_aload_n (n := 0) (q := 47) (by decide +kernel) rfl ?_
      refine vx_getI (idx := 404) (kd := 9) (s := 70) (fin := false) (q := 50) (by decide +kernel) (vx_Tk hT (by decide +kernel)) ?_
      refine vx_iload_n (n := 2) (q := 51) (by decide +kernel) rfl ?_
      obtain ⟨k7, H⟩ := H
      refine vx_iastore (z := 3) (q := 52) (by decide +kernel) (vx_Tk hT (by decide +kernel)) (vx_Tz hT (by decide +kernel)) (vx_ix k7 (by decide)) (fun h8 e8 => ?_)
      have hT8 := vx_TJ hT e8
      replace H := H h8 e8 hT8
      refine vx_aload_n (n := 0) (q := 53) (by decide +kernel) rfl ?_
      refine vx_dupR (q := 54) (by decide +kernel) ?_
      refine vx_getI (idx := 404) (kd := 9) (s := 70) (fin := false) (q := 57) (by decide +kernel) (vx_Tk hT8 (by decide +kernel)) ?_
      refine vx_iconst (n := 1) (q := 58) (by decide +kernel) ?_
      refine vx_iadd (q := 59) (by decide +kernel) ?_
      refine vx_putI (idx := 404) (kd := 9) (s := 70) (fin := false) (q := 62) (by decide +kernel) (vx_Tk hT8 (by decide +kernel)) (fun h9 e9 => ?_)
      have hT9 := vx_TJ hT8 e9
      replace H := H h9 e9 hT9
      refine vx_iinc (n := 2) (m := 1) (x := v2) (q := 65) (lv' := [some (.ref 625), some (.int (vx_i v1)), some (.int (vx_i (v2 + 1)))]) (by decide +kernel) rfl rfl ?_
      refine vx_goto (off := (-50)) (q := 68) (t := 15) (by decide +kernel) ?_
      exact H
    · replace H := H.2 c6
      refine vx_goto (off := 23) (q := 42) (t := 62) (by decide +kernel) ?_
      refine vx_iinc (n := 2) (m := 1) (x := v2) (q := 65) (lv' := [some (.ref 625), some (.int (vx_i v1)), some (.int (vx_i (v2 + 1)))]) (by decide +kernel) rfl rfl ?_
      refine vx_goto (off := (-50)) (q := 68) (t := 15) (by decide +kernel) ?_
      exact H
theorem vg_79_70 {d : Nat} {h : ve_H} {P : ve_H → Prop} {v1 : Int} {v2 : Int} (hT : vx_T 625 672 h) (H : (vx_rI v2) ∧ ((9 ≤ v2 → vx_CI d 74 [.ref 625] h (fun r3 h3 => vx_T 625 672 h3 → ((r3 = 0 → P h3) ∧ (r3 ≠ 0 → vx_CV d 80 [.ref 625, .int (vx_i 0)] h3 (fun h5 => vx_T 625 672 h5 → P h5))))) ∧ (v2 < 9 → (0 ≤ v2 ∧ v2 < 9) ∧ (∀ h7, h7 = vx_sJ h 664 v2.toNat 0 → vx_T 625 672 h7 → vx_W (d + 1) 79 70 [some (.ref 625), some (.int (vx_i v1)), some (.int (vx_i (v2 + 1)))] [] h7 (vx_RV P))))) : vx_W (d + 1) 79 70 [some (.ref 625), some (.int (vx_i v1)), some (.int (vx_i v2))] [] h (vx_RV P) := by
  refine vx_iload_n (n := 2) (q := 71) (by decide +kernel) rfl ?_
  refine vx_bipush (n := 9) (q := 73) (by decide +kernel) ?_
  obtain ⟨k1, H⟩ := H
  refine vx_icmp_ge (off := 16) (q := 76) (t := 89) (by decide +kernel) k1 (by decide) (fun c2 => ?_) (fun c2 => ?_)
  · replace H := H.1 c2
    refine vx_aload_n (n := 0) (q := 90) (by decide +kernel) rfl ?_
    refine vx_callI (i := .invokevirtual 391) (how := 3) (cm := 74) (np := 1) (q := 93) (args := [.ref 625]) (rest := []) (by decide +kernel) rfl rfl rfl (vx_w2 (w := 1) (ml := 2) rfl (by decide +kernel)) (vx_rcv (kd := 9) (vx_Tk hT (by decide +kernel)) (by decide +kernel)) H (fun r3 h3 hr3 hs3 H => ?_)
    have hT3 := vx_Tsh hT hs3
    replace H := H hT3
    refine vx_if0_eq (off := 8) (q := 96) (t := 101) (by decide +kernel) hr3 (fun c4 => ?_) (fun c4 => ?_)
    · replace H := H.1 c4
      refine vx_retV (q := 102) (by decide +kernel) ?_
      exact H
    · replace H := H.2 c4
      refine vx_aload_n (n := 0) (q := 97) (by decide +kernel) rfl ?_
      refine vx_iconst (n := 0) (q := 98) (by decide +kernel) ?_
      refine vx_callV (i := .invokevirtual 407) (how := 3) (cm := 80) (np := 2) (q := 101) (args := [.ref 625, .int (vx_i 0)]) (rest := []) (by decide +kernel) rfl rfl rfl (vx_w2 (w := 2) (ml := 3) rfl (by decide +kernel)) (vx_rcv (kd := 9) (vx_Tk hT3 (by decide +kernel)) (by decide +kernel)) H (fun h5 hs5 H => ?_)
      have hT5 := vx_Tsh hT3 hs5
      replace H := H hT5
      refine vx_retV (q := 102) (by decide +kernel) ?_
      exact H
  · replace H := H.2 c2
    refine vx_aload_n (n := 0) (q := 77) (by decide +kernel) rfl ?_
    refine vx_getR (b := 664) (idx := 130) (kd := 9) (s := 63) (fin := true) (q := 80) (by decide +kernel) (vx_Tk hT (by decide +kernel)) (vx_Tr hT (kd := 9) (by decide +kernel) (by decide +kernel) (by decide +kernel)) ?_
    refine vx_iload_n (n := 2) (q := 81) (by decide +kernel) rfl ?_
    refine vx_iconst (n := 0) (q := 82) (by decide +kernel) ?_
    obtain ⟨k6, H⟩ := H
    refine vx_zastore (z := 9) (q := 83) (by decide +kernel) (vx_Tk hT (by decide +kernel)) (vx_Tz hT (by decide +kernel)) (vx_ix k6 (by decide)) (Or.inl rfl) (fun h7 e7 => ?_)
    have hT7 := vx_TJ hT e7
    replace H := H h7 e7 hT7
    refine vx_iinc (n := 2) (m := 1) (x := v2) (q := 86) (lv' := [some (.ref 625), some (.int (vx_i v1)), some (.int (vx_i (v2 + 1)))]) (by decide +kernel) rfl rfl ?_
    refine vx_goto (off := (-16)) (q := 89) (t := 70) (by decide +kernel) ?_
    exact H
-- RuleHouseModel.way(I)V
theorem vg_80 {d : Nat} {h : ve_H} {P : ve_H → Prop} {x1 : Int} (hT : vx_T 625 672 h) (H : vx_CV d 77 [.ref 625, .int (vx_i x1)] h (fun h1 => vx_T 625 672 h1 → (vx_rI x1) ∧ ((x1 ≠ (vx_J h1 625 70) → vx_W (d + 1) 80 32 [some (.ref 625), some (.int (vx_i x1)), some (.int (vx_i 0))] [] h1 (vx_RV P)) ∧ (x1 = (vx_J h1 625 70) → vx_CI d 76 [.ref 625] h1 (fun r4 h4 => vx_T 625 672 h4 → ((r4 = 0 → vx_CV d 78 [.ref 625, .int (vx_i x1)] h4 (fun h6 => vx_T 625 672 h6 → P h6)) ∧ (r4 ≠ 0 → vx_CV d 81 [.ref 625] h4 (fun h7 => vx_T 625 672 h7 → vx_CV d 78 [.ref 625, .int (vx_i x1)] h7 (fun h8 => vx_T 625 672 h8 → P h8))))))))) : vx_CV (d + 1) 80 [.ref 625, .int (vx_i x1)] h P := by
  refine vx_enter (ml := 3) (by decide +kernel) ?_
  show vx_W _ _ 0 [some (.ref 625), some (.int (vx_i x1)), none] [] h _
  refine vx_aload_n (n := 0) (q := 1) (by decide +kernel) rfl ?_
  refine vx_iload_n (n := 1) (q := 2) (by decide +kernel) rfl ?_
  refine vx_callV (i := .invokevirtual 410) (how := 3) (cm := 77) (np := 2) (q := 5) (args := [.ref 625, .int (vx_i x1)]) (rest := []) (by decide +kernel) rfl rfl rfl (vx_w2 (w := 2) (ml := 3) rfl (by decide +kernel)) (vx_rcv (kd := 9) (vx_Tk hT (by decide +kernel)) (by decide +kernel)) H (fun h1 hs1 H => ?_)
  have hT1 := vx_Tsh hT hs1
  replace H := H hT1
  refine vx_iload_n (n := 1) (q := 6) (by decide +kernel) rfl ?_
  refine vx_aload_n (n := 0) (q := 7) (by decide +kernel) rfl ?_
  refine vx_getI (idx := 404) (kd := 9) (s := 70) (fin := false) (q := 10) (by decide +kernel) (vx_Tk hT1 (by decide +kernel)) ?_
  obtain ⟨k2, H⟩ := H
  refine vx_icmp_ne (off := 20) (q := 13) (t := 30) (by decide +kernel) k2 (vx_rI_J h1 625 70) (fun c3 => ?_) (fun c3 => ?_)
  · replace H := H.1 c3
    refine vx_iconst (n := 0) (q := 31) (by decide +kernel) ?_
    refine vx_istore_n (n := 2) (q := 32) (lv' := [some (.ref 625), some (.int (vx_i x1)), some (.int (vx_i 0))]) (by decide +kernel) rfl ?_
    exact H
  · replace H := H.2 c3
    refine vx_aload_n (n := 0) (q := 14) (by decide +kernel) rfl ?_
    refine vx_callI (i := .invokevirtual 413) (how := 3) (cm := 76) (np := 1) (q := 17) (args := [.ref 625]) (rest := []) (by decide +kernel) rfl rfl rfl (vx_w2 (w := 1) (ml := 4) rfl (by decide +kernel)) (vx_rcv (kd := 9) (vx_Tk hT1 (by decide +kernel)) (by decide +kernel)) H (fun r4 h4 hr4 hs4 H => ?_)
    have hT4 := vx_Tsh hT1 hs4
    replace H := H hT4
    refine vx_if0_eq (off := 7) (q := 20) (t := 24) (by decide +kernel) hr4 (fun c5 => ?_) (fun c5 => ?_)
    · replace H := H.1 c5
      refine vx_aload_n (n := 0) (q := 25) (by decide +kernel) rfl ?_
      refine vx_iload_n (n := 1) (q := 26) (by decide +kernel) rfl ?_
      refine vx_callV (i := .invokevirtual 419) (how := 3) (cm := 78) (np := 2) (q := 29) (args := [.ref 625, .int (vx_i x1)]) (rest := []) (by decide +kernel) rfl rfl rfl (vx_w2 (w := 2) (ml := 3) rfl (by decide +kernel)) (vx_rcv (kd := 9) (vx_Tk hT4 (by decide +kernel)) (by decide +kernel)) H (fun h6 hs6 H => ?_)
      have hT6 := vx_Tsh hT4 hs6
      replace H := H hT6
      refine vx_retV (q := 30) (by decide +kernel) ?_
      exact H
    · replace H := H.2 c5
      refine vx_aload_n (n := 0) (q := 21) (by decide +kernel) rfl ?_
      refine vx_callV (i := .invokevirtual 416) (how := 3) (cm := 81) (np := 1) (q := 24) (args := [.ref 625]) (rest := []) (by decide +kernel) rfl rfl rfl (vx_w2 (w := 1) (ml := 1) rfl (by decide +kernel)) (vx_rcv (kd := 9) (vx_Tk hT4 (by decide +kernel)) (by decide +kernel)) H (fun h7 hs7 H => ?_)
      have hT7 := vx_Tsh hT4 hs7
      replace H := H hT7
      refine vx_aload_n (n := 0) (q := 25) (by decide +kernel) rfl ?_
      refine vx_iload_n (n := 1) (q := 26) (by decide +kernel) rfl ?_
      refine vx_callV (i := .invokevirtual 419) (how := 3) (cm := 78) (np := 2) (q := 29) (args := [.ref 625, .int (vx_i x1)]) (rest := []) (by decide +kernel) rfl rfl rfl (vx_w2 (w := 2) (ml := 3) rfl (by decide +kernel)) (vx_rcv (kd := 9) (vx_Tk hT7 (by decide +kernel)) (by decide +kernel)) H (fun h8 hs8 H => ?_)
      have hT8 := vx_Tsh hT7 hs8
      replace H := H hT8
      refine vx_retV (q := 30) (by decide +kernel) ?_
      exact H
theorem vg_80_32 {d : Nat} {h : ve_H} {P : ve_H → Prop} {v1 : Int} {v2 : Int} (hT : vx_T 625 672 h) (H : (vx_rI v2) ∧ (((vx_J h 625 65) ≤ v2 → P h) ∧ (v2 < (vx_J h 625 65) → (((vx_J h 625 68) ≠ 0 → P h) ∧ ((vx_J h 625 68) = 0 → (0 ≤ v1 ∧ v1 < 3) ∧ vx_CI d 70 [.ref 625, .int (vx_i v2), .int (vx_i (vx_J h 666 v1.toNat))] h (fun r5 h5 => vx_T 625 672 h5 → ((r5 ≠ 0 → (0 ≤ v1 ∧ v1 < 3) ∧ vx_CI d 71 [.ref 625, .int (vx_i v2), .int (vx_i (vx_J h5 666 v1.toNat))] h5 (fun r8 h8 => vx_T 625 672 h8 → ((r8 = 0 → vx_CV d 78 [.ref 625, .int (vx_i v1)] h8 (fun h10 => vx_T 625 672 h10 → vx_W (d + 1) 80 32 [some (.ref 625), some (.int (vx_i v1)), some (.int (vx_i (v2 + 1)))] [] h10 (vx_RV P))) ∧ (r8 ≠ 0 → vx_CI d 74 [.ref 625] h8 (fun r11 h11 => vx_T 625 672 h11 → ((r11 = 0 → vx_CV d 78 [.ref 625, .int (vx_i v1)] h11 (fun h13 => vx_T 625 672 h13 → vx_W (d + 1) 80 32 [some (.ref 625), some (.int (vx_i v1)), some (.int (vx_i (v2 + 1)))] [] h13 (vx_RV P))) ∧ (r11 ≠ 0 → vx_CV d 80 [.ref 625, .int (vx_i (v1 + 1))] h11 (fun h14 => vx_T 625 672 h14 → vx_CV d 78 [.ref 625, .int (vx_i v1)] h14 (fun h15 => vx_T 625 672 h15 → vx_W (d + 1) 80 32 [some (.ref 625), some (.int (vx_i v1)), some (.int (vx_i (v2 + 1)))] [] h15 (vx_RV P)))))))))) ∧ (r5 = 0 → vx_W (d + 1) 80 32 [some (.ref 625), some (.int (vx_i v1)), some (.int (vx_i (v2 + 1)))] [] h5 (vx_RV P))))))))) : vx_W (d + 1) 80 32 [some (.ref 625), some (.int (vx_i v1)), some (.int (vx_i v2))] [] h (vx_RV P) := by
  refine vx_iload_n (n := 2) (q := 33) (by decide +kernel) rfl ?_
  refine vx_aload_n (n := 0) (q := 34) (by decide +kernel) rfl ?_
  refine vx_getI (idx := 398) (kd := 9) (s := 65) (fin := false) (q := 37) (by decide +kernel) (vx_Tk hT (by decide +kernel)) ?_
  obtain ⟨k1, H⟩ := H
  refine vx_icmp_ge (off := 66) (q := 40) (t := 103) (by decide +kernel) k1 (vx_rI_J h 625 65) (fun c2 => ?_) (fun c2 => ?_)
  · replace H := H.1 c2
    refine vx_retV (q := 104) (by decide +kernel) ?_
    exact H
  · replace H := H.2 c2
    refine vx_aload_n (n := 0) (q := 41) (by decide +kernel) rfl ?_
    refine vx_getZ (idx := 422) (kd := 9) (s := 68) (fin := false) (q := 44) (by decide +kernel) (vx_Tk hT (by decide +kernel)) ?_
    refine vx_if0_ne (off := 59) (q := 47) (t := 103) (by decide +kernel) (vx_rI_J h 625 68) (fun c3 => ?_) (fun c3 => ?_)
    · replace H := H.1 c3
      refine vx_retV (q := 104) (by decide +kernel) ?_
      exact H
    · replace H := H.2 c3
      refine vx_aload_n (n := 0) (q := 48) (by decide +kernel) rfl ?_
      refine vx_iload_n (n := 2) (q := 49) (by decide +kernel) rfl ?_
      refine vx_aload_n (n := 0) (q := 50) (by decide +kernel) rfl ?_
      refine vx_getR (b := 666) (idx := 136) (kd := 9) (s := 71) (fin := true) (q := 53) (by decide +kernel) (vx_Tk hT (by decide +kernel)) (vx_Tr hT (kd := 9) (by decide +kernel) (by decide +kernel) (by decide +kernel)) ?_
      refine vx_iload_n (n := 1) (q := 54) (by decide +kernel) rfl ?_
      obtain ⟨k4, H⟩ := H
      refine vx_iaload (z := 3) (q := 55) (by decide +kernel) (vx_Tk hT (by decide +kernel)) (vx_Tz hT (by decide +kernel)) (vx_ix k4 (by decide)) ?_
      refine vx_callI (i := .invokevirtual 401) (how := 3) (cm := 70) (np := 3) (q := 58) (args := [.ref 625, .int (vx_i v2), .int (vx_i (vx_J h 666 v1.toNat))]) (rest := []) (by decide +kernel) rfl rfl rfl (vx_w2 (w := 3) (ml := 5) rfl (by decide +kernel)) (vx_rcv (kd := 9) (vx_Tk hT (by decide +kernel)) (by decide +kernel)) H (fun r5 h5 hr5 hs5 H => ?_)
      have hT5 := vx_Tsh hT hs5
      replace H := H hT5
      refine vx_if0_ne (off := 6) (q := 61) (t := 64) (by decide +kernel) hr5 (fun c6 => ?_) (fun c6 => ?_)
      · replace H := H.1 c6
        refine vx_aload_n (n := 0) (q := 65) (by decide +kernel) rfl ?_
        refine vx_iload_n (n := 2) (q := 66) (by decide +kernel) rfl ?_
        refine vx_aload_n (n := 0) (q := 67) (by decide +kernel) rfl ?_
        refine vx_getR (b := 666) (idx := 136) (kd := 9) (s := 71) (fin := true) (q := 70) (by decide +kernel) (vx_Tk hT5 (by decide +kernel)) (vx_Tr hT5 (kd := 9) (by decide +kernel) (by decide +kernel) (by decide +kernel)) ?_
        refine vx_iload_n (n := 1) (q := 71) (by decide +kernel) rfl ?_
        obtain ⟨k7, H⟩ := H
        refine vx_iaload (z := 3) (q := 72) (by decide +kernel) (vx_Tk hT5 (by decide +kernel)) (vx_Tz hT5 (by decide +kernel)) (vx_ix k7 (by decide)) ?_
        refine vx_callI (i := .invokevirtual 425) (how := 3) (cm := 71) (np := 3) (q := 75) (args := [.ref 625, .int (vx_i v2), .int (vx_i (vx_J h5 666 v1.toNat))]) (rest := []) (by decide +kernel) rfl rfl rfl (vx_w2 (w := 3) (ml := 5) rfl (by decide +kernel)) (vx_rcv (kd := 9) (vx_Tk hT5 (by decide +kernel)) (by decide +kernel)) H (fun r8 h8 hr8 hs8 H => ?_)
        have hT8 := vx_Tsh hT5 hs8
        replace H := H hT8
        refine vx_if0_eq (off := 17) (q := 78) (t := 92) (by decide +kernel) hr8 (fun c9 => ?_) (fun c9 => ?_)
        · replace H := H.1 c9
          refine vx_aload_n (n := 0) (q := 93) (by decide +kernel) rfl ?_
          refine vx_iload_n (n := 1) (q := 94) (by decide +kernel) rfl ?_
          refine vx_callV (i := .invokevirtual 419) (how := 3) (cm := 78) (np := 2) (q := 97) (args := [.ref 625, .int (vx_i v1)]) (rest := []) (by decide +kernel) rfl rfl rfl (vx_w2 (w := 2) (ml := 3) rfl (by decide +kernel)) (vx_rcv (kd := 9) (vx_Tk hT8 (by decide +kernel)) (by decide +kernel)) H (fun h10 hs10 H => ?_)
          have hT10 := vx_Tsh hT8 hs10
          replace H := H hT10
          refine vx_iinc (n := 2) (m := 1) (x := v2) (q := 100) (lv' := [some (.ref 625), some (.int (vx_i v1)), some (.int (vx_i (v2 + 1)))]) (by decide +kernel) rfl rfl ?_
          refine vx_goto (off := (-68)) (q := 103) (t := 32) (by decide +kernel) ?_
          exact H
        · replace H := H.2 c9
          refine vx_aload_n (n := 0) (q := 79) (by decide +kernel) rfl ?_
          refine vx_callI (i := .invokevirtual 391) (how := 3) (cm := 74) (np := 1) (q := 82) (args := [.ref 625]) (rest := []) (by decide +kernel) rfl rfl rfl (vx_w2 (w := 1) (ml := 2) rfl (by decide +kernel)) (vx_rcv (kd := 9) (vx_Tk hT8 (by decide +kernel)) (by decide +kernel)) H (fun r11 h11 hr11 hs11 H => ?_)
          have hT11 := vx_Tsh hT8 hs11
          replace H := H hT11
          refine vx_if0_eq (off := 10) (q := 85) (t := 92) (by decide +kernel) hr11 (fun c12 => ?_) (fun c12 => ?_)
          · replace H := H.1 c12
            refine vx_aload_n (n := 0) (q := 93) (by decide +kernel) rfl ?_
            refine vx_iload_n (n := 1) (q := 94) (by decide +kernel) rfl ?_
            refine vx_callV (i := .invokevirtual 419) (how := 3) (cm := 78) (np := 2) (q := 97) (args := [.ref 625, .int (vx_i v1)]) (rest := []) (by decide +kernel) rfl rfl rfl (vx_w2 (w := 2) (ml := 3) rfl (by decide +kernel)) (vx_rcv (kd := 9) (vx_Tk hT11 (by decide +kernel)) (by decide +kernel)) H (fun h13 hs13 H => ?_)
            have hT13 := vx_Tsh hT11 hs13
            replace H := H hT13
            refine vx_iinc (n := 2) (m := 1) (x := v2) (q := 100) (lv' := [some (.ref 625), some (.int (vx_i v1)), some (.int (vx_i (v2 + 1)))]) (by decide +kernel) rfl rfl ?_
            refine vx_goto (off := (-68)) (q := 103) (t := 32) (by decide +kernel) ?_
            exact H
          · replace H := H.2 c12
            refine vx_aload_n (n := 0) (q := 86) (by decide +kernel) rfl ?_
            refine vx_iload_n (n := 1) (q := 87) (by decide +kernel) rfl ?_
            refine vx_iconst (n := 1) (q := 88) (by decide +kernel) ?_
            refine vx_iadd (q := 89) (by decide +kernel) ?_
            refine vx_callV (i := .invokevirtual 407) (how := 3) (cm := 80) (np := 2) (q := 92) (args := [.ref 625, .int (vx_i (v1 + 1))]) (rest := []) (by decide +kernel) rfl rfl rfl (vx_w2 (w := 2) (ml := 3) rfl (by decide +kernel)) (vx_rcv (kd := 9) (vx_Tk hT11 (by decide +kernel)) (by decide +kernel)) H (fun h14 hs14 H => ?_)
            have hT14 := vx_Tsh hT11 hs14
            replace H := H hT14
            refine vx_aload_n (n := 0) (q := 93) (by decide +kernel) rfl ?_
            refine vx_iload_n (n := 1) (q := 94) (by decide +kernel) rfl ?_
            refine vx_callV (i := .invokevirtual 419) (how := 3) (cm := 78) (np := 2) (q := 97) (args := [.ref 625, .int (vx_i v1)]) (rest := []) (by decide +kernel) rfl rfl rfl (vx_w2 (w := 2) (ml := 3) rfl (by decide +kernel)) (vx_rcv (kd := 9) (vx_Tk hT14 (by decide +kernel)) (by decide +kernel)) H (fun h15 hs15 H => ?_)
            have hT15 := vx_Tsh hT14 hs15
            replace H := H hT15
            refine vx_iinc (n := 2) (m := 1) (x := v2) (q := 100) (lv' := [some (.ref 625), some (.int (vx_i v1)), some (.int (vx_i (v2 + 1)))]) (by decide +kernel) rfl rfl ?_
            refine vx_goto (off := (-68)) (q := 103) (t := 32) (by decide +kernel) ?_
            exact H
      · replace H := H.2 c6
        refine vx_goto (off := 36) (q := 64) (t := 97) (by decide +kernel) ?_
        refine vx_iinc (n := 2) (m := 1) (x := v2) (q := 100) (lv' := [some (.ref 625), some (.int (vx_i v1)), some (.int (vx_i (v2 + 1)))]) (by decide +kernel) rfl rfl ?_
        refine vx_goto (off := (-68)) (q := 103) (t := 32) (by decide +kernel) ?_
        exact H
-- RuleHouseModel.makes()V
theorem vg_81 {d : Nat} {h : ve_H} {P : ve_H → Prop}  (hT : vx_T 625 672 h) (H : (((vx_J h 625 66) ≠ 0 → (((vx_J h 625 66) ≠ 1 → vx_CV d 92 [.ref 625] h (fun h3 => vx_T 625 672 h3 → P h3)) ∧ ((vx_J h 625 66) = 1 → vx_CV d 86 [.ref 625] h (fun h4 => vx_T 625 672 h4 → P h4)))) ∧ ((vx_J h 625 66) = 0 → vx_CV d 85 [.ref 625] h (fun h5 => vx_T 625 672 h5 → P h5)))) : vx_CV (d + 1) 81 [.ref 625] h P := by
  refine vx_enter (ml := 1) (by decide +kernel) ?_
  show vx_W _ _ 0 [some (.ref 625)] [] h _
  refine vx_aload_n (n := 0) (q := 1) (by decide +kernel) rfl ?_
  refine vx_getI (idx := 428) (kd := 9) (s := 66) (fin := false) (q := 4) (by decide +kernel) (vx_Tk hT (by decide +kernel)) ?_
  refine vx_if0_ne (off := 10) (q := 7) (t := 14) (by decide +kernel) (vx_rI_J h 625 66) (fun c1 => ?_) (fun c1 => ?_)
  · replace H := H.1 c1
    refine vx_aload_n (n := 0) (q := 15) (by decide +kernel) rfl ?_
    refine vx_getI (idx := 428) (kd := 9) (s := 66) (fin := false) (q := 18) (by decide +kernel) (vx_Tk hT (by decide +kernel)) ?_
    refine vx_iconst (n := 1) (q := 19) (by decide +kernel) ?_
    refine vx_icmp_ne (off := 10) (q := 22) (t := 29) (by decide +kernel) (vx_rI_J h 625 66) (by decide) (fun c2 => ?_) (fun c2 => ?_)
    · replace H := H.1 c2
      refine vx_aload_n (n := 0) (q := 30) (by decide +kernel) rfl ?_
      refine vx_callV (i := .invokevirtual 437) (how := 3) (cm := 92) (np := 1) (q := 33) (args := [.ref 625]) (rest := []) (by decide +kernel) rfl rfl rfl (vx_w2 (w := 1) (ml := 5) rfl (by decide +kernel)) (vx_rcv (kd := 9) (vx_Tk hT (by decide +kernel)) (by decide +kernel)) H (fun h3 hs3 H => ?_)
      have hT3 := vx_Tsh hT hs3
      replace H := H hT3
      refine vx_retV (q := 34) (by decide +kernel) ?_
      exact H
    · replace H := H.2 c2
      refine vx_aload_n (n := 0) (q := 23) (by decide +kernel) rfl ?_
      refine vx_callV (i := .invokevirtual 434) (how := 3) (cm := 86) (np := 1) (q := 26) (args := [.ref 625]) (rest := []) (by decide +kernel) rfl rfl rfl (vx_w2 (w := 1) (ml := 8) rfl (by decide +kernel)) (vx_rcv (kd := 9) (vx_Tk hT (by decide +kernel)) (by decide +kernel)) H (fun h4 hs4 H => ?_)
      have hT4 := vx_Tsh hT hs4
      replace H := H hT4
      refine vx_goto (off := 7) (q := 29) (t := 33) (by decide +kernel) ?_
      refine vx_retV (q := 34) (by decide +kernel) ?_
      exact H
  · replace H := H.2 c1
    refine vx_aload_n (n := 0) (q := 8) (by decide +kernel) rfl ?_
    refine vx_callV (i := .invokevirtual 431) (how := 3) (cm := 85) (np := 1) (q := 11) (args := [.ref 625]) (rest := []) (by decide +kernel) rfl rfl rfl (vx_w2 (w := 1) (ml := 2) rfl (by decide +kernel)) (vx_rcv (kd := 9) (vx_Tk hT (by decide +kernel)) (by decide +kernel)) H (fun h5 hs5 H => ?_)
    have hT5 := vx_Tsh hT hs5
    replace H := H hT5
    refine vx_goto (off := 22) (q := 14) (t := 33) (by decide +kernel) ?_
    refine vx_retV (q := 34) (by decide +kernel) ?_
    exact H
-- RuleHouseModel.headOf(I)J
theorem vg_82 {d : Nat} {h : ve_H} {P : Int → ve_H → Prop} {x1 : Int} (hT : vx_T 625 672 h) (H : (0 ≤ ((4 * (vx_J h 625 42)) + x1) ∧ ((4 * (vx_J h 625 42)) + x1) < 244) ∧ (((vx_J h 637 ((4 * (vx_J h 625 42)) + x1).toNat) ≠ 0 → (0 ≤ ((4 * (vx_J h 625 42)) + x1) ∧ ((4 * (vx_J h 625 42)) + x1) < 244) ∧ (0 ≤ (vx_K h 638 ((4 * (vx_J h 625 42)) + x1).toNat) ∧ (vx_K h 638 ((4 * (vx_J h 625 42)) + x1).toNat) < 9) ∧ P (vx_K h 665 (vx_K h 638 ((4 * (vx_J h 625 42)) + x1).toNat).toNat) h) ∧ ((vx_J h 637 ((4 * (vx_J h 625 42)) + x1).toNat) = 0 → (0 ≤ ((4 * (vx_J h 625 42)) + x1) ∧ ((4 * (vx_J h 625 42)) + x1) < 244) ∧ P (vx_K h 638 ((4 * (vx_J h 625 42)) + x1).toNat) h))) : vx_CL d 82 [.ref 625, .int (vx_i x1)] h P := by
  refine vx_enter (ml := 2) (by decide +kernel) ?_
  show vx_W _ _ 0 [some (.ref 625), some (.int (vx_i x1))] [] h _
  refine vx_aload_n (n := 0) (q := 1) (by decide +kernel) rfl ?_
  refine vx_getR (b := 637) (idx := 44) (kd := 9) (s := 18) (fin := true) (q := 4) (by decide +kernel) (vx_Tk hT (by decide +kernel)) (vx_Tr hT (kd := 9) (by decide +kernel) (by decide +kernel) (by decide +kernel)) ?_
  refine vx_iconst (n := 4) (q := 5) (by decide +kernel) ?_
  refine vx_aload_n (n := 0) (q := 6) (by decide +kernel) rfl ?_
  refine vx_getI (idx := 223) (kd := 9) (s := 42) (fin := false) (q := 9) (by decide +kernel) (vx_Tk hT (by decide +kernel)) ?_
  refine vx_imul (q := 10) (by decide +kernel) ?_
  refine vx_iload_n (n := 1) (q := 11) (by decide +kernel) rfl ?_
  refine vx_iadd (q := 12) (by decide +kernel) ?_
  obtain ⟨k1, H⟩ := H
  refine vx_iaload (z := 244) (q := 13) (by decide +kernel) (vx_Tk hT (by decide +kernel)) (vx_Tz hT (by decide +kernel)) (vx_ix k1 (by decide)) ?_
  refine vx_if0_ne (off := 19) (q := 16) (t := 32) (by decide +kernel) (vx_rI_J h 637 ((4 * (vx_J h 625 42)) + x1).toNat) (fun c2 => ?_) (fun c2 => ?_)
  · replace H := H.1 c2
    refine vx_aload_n (n := 0) (q := 33) (by decide +kernel) rfl ?_
    refine vx_getR (b := 665) (idx := 133) (kd := 9) (s := 64) (fin := true) (q := 36) (by decide +kernel) (vx_Tk hT (by decide +kernel)) (vx_Tr hT (kd := 9) (by decide +kernel) (by decide +kernel) (by decide +kernel)) ?_
    refine vx_aload_n (n := 0) (q := 37) (by decide +kernel) rfl ?_
    refine vx_getR (b := 638) (idx := 47) (kd := 9) (s := 19) (fin := true) (q := 40) (by decide +kernel) (vx_Tk hT (by decide +kernel)) (vx_Tr hT (kd := 9) (by decide +kernel) (by decide +kernel) (by decide +kernel)) ?_
    refine vx_iconst (n := 4) (q := 41) (by decide +kernel) ?_
    refine vx_aload_n (n := 0) (q := 42) (by decide +kernel) rfl ?_
    refine vx_getI (idx := 223) (kd := 9) (s := 42) (fin := false) (q := 45) (by decide +kernel) (vx_Tk hT (by decide +kernel)) ?_
    refine vx_imul (q := 46) (by decide +kernel) ?_
    refine vx_iload_n (n := 1) (q := 47) (by decide +kernel) rfl ?_
    refine vx_iadd (q := 48) (by decide +kernel) ?_
    obtain ⟨k3, H⟩ := H
    refine vx_laload (z := 244) (q := 49) (by decide +kernel) (vx_Tk hT (by decide +kernel)) (vx_Tz hT (by decide +kernel)) (vx_ix k3 (by decide)) ?_
    refine vx_l2i (q := 50) (by decide +kernel) ?_
    obtain ⟨k4, H⟩ := H
    refine vx_laload (z := 9) (q := 51) (by decide +kernel) (vx_Tk hT (by decide +kernel)) (vx_Tz hT (by decide +kernel)) (vx_ix k4 (by decide)) ?_
    refine vx_retL (q := 52) (by decide +kernel) (vx_rL_K h 665 (vx_K h 638 ((4 * (vx_J h 625 42)) + x1).toNat).toNat) ?_
    exact H
  · replace H := H.2 c2
    refine vx_aload_n (n := 0) (q := 17) (by decide +kernel) rfl ?_
    refine vx_getR (b := 638) (idx := 47) (kd := 9) (s := 19) (fin := true) (q := 20) (by decide +kernel) (vx_Tk hT (by decide +kernel)) (vx_Tr hT (kd := 9) (by decide +kernel) (by decide +kernel) (by decide +kernel)) ?_
    refine vx_iconst (n := 4) (q := 21) (by decide +kernel) ?_
    refine vx_aload_n (n := 0) (q := 22) (by decide +kernel) rfl ?_
    refine vx_getI (idx := 223) (kd := 9) (s := 42) (fin := false) (q := 25) (by decide +kernel) (vx_Tk hT (by decide +kernel)) ?_
    refine vx_imul (q := 26) (by decide +kernel) ?_
    refine vx_iload_n (n := 1) (q := 27) (by decide +kernel) rfl ?_
    refine vx_iadd (q := 28) (by decide +kernel) ?_
    obtain ⟨k5, H⟩ := H
    refine vx_laload (z := 244) (q := 29) (by decide +kernel) (vx_Tk hT (by decide +kernel)) (vx_Tz hT (by decide +kernel)) (vx_ix k5 (by decide)) ?_
    refine vx_goto (off := 22) (q := 32) (t := 51) (by decide +kernel) ?_
    refine vx_retL (q := 52) (by decide +kernel) (vx_rL_K h 638 ((4 * (vx_J h 625 42)) + x1).toNat) ?_
    exact H
-- RuleHouseModel.sizeOf(I)I
theorem vg_83 {d : Nat} {h : ve_H} {P : Int → ve_H → Prop} {x1 : Int} (hT : vx_T 625 672 h) (H : (0 ≤ ((16 * (vx_J h 625 11)) + x1) ∧ ((16 * (vx_J h 625 11)) + x1) < 32) ∧ P (vx_J h 633 ((16 * (vx_J h 625 11)) + x1).toNat) h) : vx_CI d 83 [.ref 625, .int (vx_i x1)] h P := by
  refine vx_enter (ml := 2) (by decide +kernel) ?_
  show vx_W _ _ 0 [some (.ref 625), some (.int (vx_i x1))] [] h _
  refine vx_aload_n (n := 0) (q := 1) (by decide +kernel) rfl ?_
  refine vx_getR (b := 633) (idx := 32) (kd := 9) (s := 14) (fin := true) (q := 4) (by decide +kernel) (vx_Tk hT (by decide +kernel)) (vx_Tr hT (kd := 9) (by decide +kernel) (by decide +kernel) (by decide +kernel)) ?_
  refine vx_bipush (n := 16) (q := 6) (by decide +kernel) ?_
  refine vx_aload_n (n := 0) (q := 7) (by decide +kernel) rfl ?_
  refine vx_getI (idx := 342) (kd := 9) (s := 11) (fin := false) (q := 10) (by decide +kernel) (vx_Tk hT (by decide +kernel)) ?_
  refine vx_imul (q := 11) (by decide +kernel) ?_
  refine vx_iload_n (n := 1) (q := 12) (by decide +kernel) rfl ?_
  refine vx_iadd (q := 13) (by decide +kernel) ?_
  obtain ⟨k1, H⟩ := H
  refine vx_iaload (z := 32) (q := 14) (by decide +kernel) (vx_Tk hT (by decide +kernel)) (vx_Tz hT (by decide +kernel)) (vx_ix k1 (by decide)) ?_
  refine vx_retI (q := 15) (by decide +kernel) (vx_rI_J h 633 ((16 * (vx_J h 625 11)) + x1).toNat) ?_
  exact H
-- RuleHouseModel.come(I)V
theorem vg_84 {d : Nat} {h : ve_H} {P : ve_H → Prop} {x1 : Int} (hT : vx_T 625 672 h) (H : vx_W (d + 1) 84 2 [some (.ref 625), some (.int (vx_i x1)), some (.int (vx_i 0)), none, none] [] h (vx_RV P)) : vx_CV (d + 1) 84 [.ref 625, .int (vx_i x1)] h P := by
  refine vx_enter (ml := 5) (by decide +kernel) ?_
  show vx_W _ _ 0 [some (.ref 625), some (.int (vx_i x1)), none, none, none] [] h _
  refine vx_iconst (n := 0) (q := 1) (by decide +kernel) ?_
  refine vx_istore_n (n := 2) (q := 2) (lv' := [some (.ref 625), some (.int (vx_i x1)), some (.int (vx_i 0)), none, none]) (by decide +kernel) rfl ?_
  exact H
theorem vg_84_2 {d : Nat} {h : ve_H} {P : ve_H → Prop} {v1 : Int} {v2 : Int} {v3 : Option Value} {v4 : Option Value} (hT : vx_T 625 672 h) (H : (vx_rI v2) ∧ (((vx_J h 625 32) ≤ v2 → (0 ≤ (vx_J h 625 32) ∧ (vx_J h 625 32) < 260) ∧ (∀ h4, h4 = vx_sJ h 650 (vx_J h 625 32).toNat v1 → vx_T 625 672 h4 → (0 ≤ (vx_J h4 625 32) ∧ (vx_J h4 625 32) < 260) ∧ (∀ h6, h6 = vx_sJ h4 651 (vx_J h4 625 32).toNat (vx_J h4 625 67) → vx_T 625 672 h6 → vx_W (d + 1) 84 113 [some (.ref 625), some (.int (vx_i v1)), some (.int (vx_i 0)), v3, v4] [] h6 (vx_RV P)))) ∧ (v2 < (vx_J h 625 32) → (0 ≤ v2 ∧ v2 < 260) ∧ (vx_rI v1) ∧ (((vx_J h 650 v2.toNat) ≠ v1 → vx_W (d + 1) 84 29 [some (.ref 625), some (.int (vx_i v1)), some (.int (vx_i v2)), some (.int (vx_i 0)), some (.int (vx_i 0))] [] h (vx_RV P)) ∧ ((vx_J h 650 v2.toNat) = v1 → vx_W (d + 1) 84 29 [some (.ref 625), some (.int (vx_i v1)), some (.int (vx_i v2)), some (.int (vx_i 1)), some (.int (vx_i 0))] [] h (vx_RV P)))))) : vx_W (d + 1) 84 2 [some (.ref 625), some (.int (vx_i v1)), some (.int (vx_i v2)), v3, v4] [] h (vx_RV P) := by
  refine vx_iload_n (n := 2) (q := 3) (by decide +kernel) rfl ?_
  refine vx_aload_n (n := 0) (q := 4) (by decide +kernel) rfl ?_
  refine vx_getI (idx := 357) (kd := 9) (s := 32) (fin := false) (q := 7) (by decide +kernel) (vx_Tk hT (by decide +kernel)) ?_
  obtain ⟨k1, H⟩ := H
  refine vx_icmp_ge (off := 81) (q := 10) (t := 88) (by decide +kernel) k1 (vx_rI_J h 625 32) (fun c2 => ?_) (fun c2 => ?_)
  · replace H := H.1 c2
    refine vx_aload_n (n := 0) (q := 89) (by decide +kernel) rfl ?_
    refine vx_getR (b := 650) (idx := 87) (kd := 9) (s := 33) (fin := true) (q := 92) (by decide +kernel) (vx_Tk hT (by decide +kernel)) (vx_Tr hT (kd := 9) (by decide +kernel) (by decide +kernel) (by decide +kernel)) ?_
    refine vx_aload_n (n := 0) (q := 93) (by decide +kernel) rfl ?_
    refine vx_getI (idx := 357) (kd := 9) (s := 32) (fin := false) (q := 96) (by decide +kernel) (vx_Tk hT (by decide +kernel)) ?_
    refine vx_iload_n (n := 1) (q := 97) (by decide +kernel) rfl ?_
    obtain ⟨k3, H⟩ := H
    refine vx_iastore (z := 260) (q := 98) (by decide +kernel) (vx_Tk hT (by decide +kernel)) (vx_Tz hT (by decide +kernel)) (vx_ix k3 (by decide)) (fun h4 e4 => ?_)
    have hT4 := vx_TJ hT e4
    replace H := H h4 e4 hT4
    refine vx_aload_n (n := 0) (q := 99) (by decide +kernel) rfl ?_
    refine vx_getR (b := 651) (idx := 90) (kd := 9) (s := 34) (fin := true) (q := 102) (by decide +kernel) (vx_Tk hT4 (by decide +kernel)) (vx_Tr hT4 (kd := 9) (by decide +kernel) (by decide +kernel) (by decide +kernel)) ?_
    refine vx_aload_n (n := 0) (q := 103) (by decide +kernel) rfl ?_
    refine vx_getI (idx := 357) (kd := 9) (s := 32) (fin := false) (q := 106) (by decide +kernel) (vx_Tk hT4 (by decide +kernel)) ?_
    refine vx_aload_n (n := 0) (q := 107) (by decide +kernel) rfl ?_
    refine vx_getI (idx := 443) (kd := 9) (s := 67) (fin := false) (q := 110) (by decide +kernel) (vx_Tk hT4 (by decide +kernel)) ?_
    obtain ⟨k5, H⟩ := H
    refine vx_iastore (z := 260) (q := 111) (by decide +kernel) (vx_Tk hT4 (by decide +kernel)) (vx_Tz hT4 (by decide +kernel)) (vx_ix k5 (by decide)) (fun h6 e6 => ?_)
    have hT6 := vx_TJ hT4 e6
    replace H := H h6 e6 hT6
    refine vx_iconst (n := 0) (q := 112) (by decide +kernel) ?_
    refine vx_istore_n (n := 2) (q := 113) (lv' := [some (.ref 625), some (.int (vx_i v1)), some (.int (vx_i 0)), v3, v4]) (by decide +kernel) rfl ?_
    exact H
  · replace H := H.2 c2
    refine vx_aload_n (n := 0) (q := 11) (by decide +kernel) rfl ?_
    refine vx_getR (b := 650) (idx := 87) (kd := 9) (s := 33) (fin := true) (q := 14) (by decide +kernel) (vx_Tk hT (by decide +kernel)) (vx_Tr hT (kd := 9) (by decide +kernel) (by decide +kernel) (by decide +kernel)) ?_
    refine vx_iload_n (n := 2) (q := 15) (by decide +kernel) rfl ?_
    obtain ⟨k7, H⟩ := H
    refine vx_iaload (z := 260) (q := 16) (by decide +kernel) (vx_Tk hT (by decide +kernel)) (vx_Tz hT (by decide +kernel)) (vx_ix k7 (by decide)) ?_
    refine vx_iload_n (n := 1) (q := 17) (by decide +kernel) rfl ?_
    obtain ⟨k8, H⟩ := H
    refine vx_icmp_ne (off := 7) (q := 20) (t := 24) (by decide +kernel) (vx_rI_J h 650 v2.toNat) k8 (fun c9 => ?_) (fun c9 => ?_)
    · replace H := H.1 c9
      refine vx_iconst (n := 0) (q := 25) (by decide +kernel) ?_
      refine vx_istore_n (n := 3) (q := 26) (lv' := [some (.ref 625), some (.int (vx_i v1)), some (.int (vx_i v2)), some (.int (vx_i 0)), v4]) (by decide +kernel) rfl ?_
      refine vx_iconst (n := 0) (q := 27) (by decide +kernel) ?_
      refine vx_istore (n := 4) (q := 29) (lv' := [some (.ref 625), some (.int (vx_i v1)), some (.int (vx_i v2)), some (.int (vx_i 0)), some (.int (vx_i 0))]) (by decide +kernel) rfl ?_
      exact H
    · replace H := H.2 c9
      refine vx_iconst (n := 1) (q := 21) (by decide +kernel) ?_
      refine vx_goto (off := 4) (q := 24) (t := 25) (by decide +kernel) ?_
      refine vx_istore_n (n := 3) (q := 26) (lv' := [some (.ref 625), some (.int (vx_i v1)), some (.int (vx_i v2)), some (.int (vx_i 1)), v4]) (by decide +kernel) rfl ?_
      refine vx_iconst (n := 0) (q := 27) (by decide +kernel) ?_
      refine vx_istore (n := 4) (q := 29) (lv' := [some (.ref 625), some (.int (vx_i v1)), some (.int (vx_i v2)), some (.int (vx_i 1)), some (.int (vx_i 0))]) (by decide +kernel) rfl ?_
      exact H
theorem vg_84_29 {d : Nat} {h : ve_H} {P : ve_H → Prop} {v1 : Int} {v2 : Int} {v3 : Int} {v4 : Int} (hT : vx_T 625 672 h) (H : (vx_rI v3) ∧ ((v3 = 0 → vx_W (d + 1) 84 2 [some (.ref 625), some (.int (vx_i v1)), some (.int (vx_i (v2 + 1))), some (.int (vx_i v3)), some (.int (vx_i v4))] [] h (vx_RV P)) ∧ (v3 ≠ 0 → vx_CI d 83 [.ref 625, .int (vx_i v1)] h (fun r3 h3 => vx_T 625 672 h3 → (vx_rI v4) ∧ ((r3 ≤ v4 → P h3) ∧ (v4 < r3 → (0 ≤ ((4 * v2) + v4) ∧ ((4 * v2) + v4) < 1040) ∧ (0 ≤ v4 ∧ v4 < 4) ∧ (((vx_K h3 652 ((4 * v2) + v4).toNat) ≠ (vx_K h3 669 v4.toNat) → vx_W (d + 1) 84 29 [some (.ref 625), some (.int (vx_i v1)), some (.int (vx_i v2)), some (.int (vx_i 0)), some (.int (vx_i (v4 + 1)))] [] h3 (vx_RV P)) ∧ ((vx_K h3 652 ((4 * v2) + v4).toNat) = (vx_K h3 669 v4.toNat) → vx_W (d + 1) 84 29 [some (.ref 625), some (.int (vx_i v1)), some (.int (vx_i v2)), some (.int (vx_i 1)), some (.int (vx_i (v4 + 1)))] [] h3 (vx_RV P))))))))) : vx_W (d + 1) 84 29 [some (.ref 625), some (.int (vx_i v1)), some (.int (vx_i v2)), some (.int (vx_i v3)), some (.int (vx_i v4))] [] h (vx_RV P) := by
  refine vx_iload_n (n := 3) (q := 30) (by decide +kernel) rfl ?_
  obtain ⟨k1, H⟩ := H
  refine vx_if0_eq (off := 47) (q := 33) (t := 77) (by decide +kernel) k1 (fun c2 => ?_) (fun c2 => ?_)
  · replace H := H.1 c2
    refine vx_iload_n (n := 3) (q := 78) (by decide +kernel) rfl ?_
    refine vx_if0_eq (off := 4) (q := 81) (t := 82) (by decide +kernel) k1 (fun _ => ?_) (fun c => absurd c (by omega))
    refine vx_iinc (n := 2) (m := 1) (x := v2) (q := 85) (lv' := [some (.ref 625), some (.int (vx_i v1)), some (.int (vx_i (v2 + 1))), some (.int (vx_i v3)), some (.int (vx_i v4))]) (by decide +kernel) rfl rfl ?_
    refine vx_goto (off := (-83)) (q := 88) (t := 2) (by decide +kernel) ?_
    exact H
  · replace H := H.2 c2
    refine vx_iload (n := 4) (q := 35) (by decide +kernel) rfl ?_
    refine vx_aload_n (n := 0) (q := 36) (by decide +kernel) rfl ?_
    refine vx_iload_n (n := 1) (q := 37) (by decide +kernel) rfl ?_
    refine vx_callI (i := .invokevirtual 440) (how := 3) (cm := 83) (np := 2) (q := 40) (args := [.ref 625, .int (vx_i v1)]) (rest := [.int (vx_i v4)]) (by decide +kernel) rfl rfl rfl (vx_w2 (w := 2) (ml := 2) rfl (by decide +kernel)) (vx_rcv (kd := 9) (vx_Tk hT (by decide +kernel)) (by decide +kernel)) H (fun r3 h3 hr3 hs3 H => ?_)
    have hT3 := vx_Tsh hT hs3
    replace H := H hT3
    obtain ⟨k4, H⟩ := H
    refine vx_icmp_ge (off := 37) (q := 43) (t := 77) (by decide +kernel) k4 hr3 (fun c5 => ?_) (fun c5 => ?_)
    · replace H := H.1 c5
      refine vx_iload_n (n := 3) (q := 78) (by decide +kernel) rfl ?_
      refine vx_if0_eq (off := 4) (q := 81) (t := 82) (by decide +kernel) k1 (fun c => absurd c (by omega)) (fun _ => ?_)
      refine vx_retV (q := 82) (by decide +kernel) ?_
      exact H
    · replace H := H.2 c5
      refine vx_aload_n (n := 0) (q := 44) (by decide +kernel) rfl ?_
      refine vx_getR (b := 652) (idx := 93) (kd := 9) (s := 35) (fin := true) (q := 47) (by decide +kernel) (vx_Tk hT3 (by decide +kernel)) (vx_Tr hT3 (kd := 9) (by decide +kernel) (by decide +kernel) (by decide +kernel)) ?_
      refine vx_iconst (n := 4) (q := 48) (by decide +kernel) ?_
      refine vx_iload_n (n := 2) (q := 49) (by decide +kernel) rfl ?_
      refine vx_imul (q := 50) (by decide +kernel) ?_
      refine vx_iload (n := 4) (q := 52) (by decide +kernel) rfl ?_
      refine vx_iadd (q := 53) (by decide +kernel) ?_
      obtain ⟨k6, H⟩ := H
      refine vx_laload (z := 1040) (q := 54) (by decide +kernel) (vx_Tk hT3 (by decide +kernel)) (vx_Tz hT3 (by decide +kernel)) (vx_ix k6 (by decide)) ?_
      refine vx_aload_n (n := 0) (q := 55) (by decide +kernel) rfl ?_
      refine vx_getR (b := 669) (idx := 145) (kd := 9) (s := 74) (fin := true) (q := 58) (by decide +kernel) (vx_Tk hT3 (by decide +kernel)) (vx_Tr hT3 (kd := 9) (by decide +kernel) (by decide +kernel) (by decide +kernel)) ?_
      refine vx_iload (n := 4) (q := 60) (by decide +kernel) rfl ?_
      obtain ⟨k7, H⟩ := H
      refine vx_laload (z := 4) (q := 61) (by decide +kernel) (vx_Tk hT3 (by decide +kernel)) (vx_Tz hT3 (by decide +kernel)) (vx_ix k7 (by decide)) ?_
      refine vx_lc_ne (off := 7) (p := 62) (q := 65) (t := 69) (by decide +kernel) (vx_rL_K h3 652 ((4 * v2) + v4).toNat) (vx_rL_K h3 669 v4.toNat) (fun c8 => ?_) (fun c8 => ?_)
      · replace H := H.1 c8
        refine vx_iconst (n := 0) (q := 70) (by decide +kernel) ?_
        refine vx_istore_n (n := 3) (q := 71) (lv' := [some (.ref 625), some (.int (vx_i v1)), some (.int (vx_i v2)), some (.int (vx_i 0)), some (.int (vx_i v4))]) (by decide +kernel) rfl ?_
        refine vx_iinc (n := 4) (m := 1) (x := v4) (q := 74) (lv' := [some (.ref 625), some (.int (vx_i v1)), some (.int (vx_i v2)), some (.int (vx_i 0)), some (.int (vx_i (v4 + 1)))]) (by decide +kernel) rfl rfl ?_
        refine vx_goto (off := (-45)) (q := 77) (t := 29) (by decide +kernel) ?_
        exact H
      · replace H := H.2 c8
        refine vx_iconst (n := 1) (q := 66) (by decide +kernel) ?_
        refine vx_goto (off := 4) (q := 69) (t := 70) (by decide +kernel) ?_
        refine vx_istore_n (n := 3) (q := 71) (lv' := [some (.ref 625), some (.int (vx_i v1)), some (.int (vx_i v2)), some (.int (vx_i 1)), some (.int (vx_i v4))]) (by decide +kernel) rfl ?_
        refine vx_iinc (n := 4) (m := 1) (x := v4) (q := 74) (lv' := [some (.ref 625), some (.int (vx_i v1)), some (.int (vx_i v2)), some (.int (vx_i 1)), some (.int (vx_i (v4 + 1)))]) (by decide +kernel) rfl rfl ?_
        refine vx_goto (off := (-45)) (q := 77) (t := 29) (by decide +kernel) ?_
        exact H
theorem vg_84_113 {d : Nat} {h : ve_H} {P : ve_H → Prop} {v1 : Int} {v2 : Int} {v3 : Option Value} {v4 : Option Value} (hT : vx_T 625 672 h) (H : (vx_rI v2) ∧ ((4 ≤ v2 → (∀ h3, h3 = vx_sJ h 625 32 ((vx_J h 625 32) + 1) → vx_T 625 672 h3 → (((vx_J h3 625 32) ≤ 200 → (∀ h5, h5 = vx_sJ h3 625 68 0 → vx_T 625 672 h5 → P h5)) ∧ (200 < (vx_J h3 625 32) → (∀ h6, h6 = vx_sJ h3 625 68 1 → vx_T 625 672 h6 → P h6))))) ∧ (v2 < 4 → vx_CI d 83 [.ref 625, .int (vx_i v1)] h (fun r7 h7 => vx_T 625 672 h7 → ((r7 ≤ v2 → (0 ≤ ((4 * (vx_J h 625 32)) + v2) ∧ ((4 * (vx_J h 625 32)) + v2) < 1040) ∧ (∀ h10, h10 = vx_sK h7 652 ((4 * (vx_J h 625 32)) + v2).toNat 0 → vx_T 625 672 h10 → vx_W (d + 1) 84 113 [some (.ref 625), some (.int (vx_i v1)), some (.int (vx_i (v2 + 1))), v3, v4] [] h10 (vx_RV P))) ∧ (v2 < r7 → (0 ≤ v2 ∧ v2 < 4) ∧ (0 ≤ ((4 * (vx_J h 625 32)) + v2) ∧ ((4 * (vx_J h 625 32)) + v2) < 1040) ∧ (∀ h13, h13 = vx_sK h7 652 ((4 * (vx_J h 625 32)) + v2).toNat (vx_K h7 669 v2.toNat) → vx_T 625 672 h13 → vx_W (d + 1) 84 113 [some (.ref 625), some (.int (vx_i v1)), some (.int (vx_i (v2 + 1))), v3, v4] [] h13 (vx_RV P)))))))) : vx_W (d + 1) 84 113 [some (.ref 625), some (.int (vx_i v1)), some (.int (vx_i v2)), v3, v4] [] h (vx_RV P) := by
  refine vx_iload_n (n := 2) (q := 114) (by decide +kernel) rfl ?_
  refine vx_iconst (n := 4) (q := 115) (by decide +kernel) ?_
  obtain ⟨k1, H⟩ := H
  refine vx_icmp_ge (off := 41) (q := 118) (t := 156) (by decide +kernel) k1 (by decide) (fun c2 => ?_) (fun c2 => ?_)
  · replace H := H.1 c2
    refine vx_aload_n (n := 0) (q := 157) (by decide +kernel) rfl ?_
    refine vx_dupR (q := 158) (by decide +kernel) ?_
    refine vx_getI (idx := 357) (kd := 9) (s := 32) (fin := false) (q := 161) (by decide +kernel) (vx_Tk hT (by decide +kernel)) ?_
    refine vx_iconst (n := 1) (q := 162) (by decide +kernel) ?_
    refine vx_iadd (q := 163) (by decide +kernel) ?_
    refine vx_putI (idx := 357) (kd := 9) (s := 32) (fin := false) (q := 166) (by decide +kernel) (vx_Tk hT (by decide +kernel)) (fun h3 e3 => ?_)
    have hT3 := vx_TJ hT e3
    replace H := H h3 e3 hT3
    refine vx_aload_n (n := 0) (q := 167) (by decide +kernel) rfl ?_
    refine vx_aload_n (n := 0) (q := 168) (by decide +kernel) rfl ?_
    refine vx_getI (idx := 357) (kd := 9) (s := 32) (fin := false) (q := 171) (by decide +kernel) (vx_Tk hT3 (by decide +kernel)) ?_
    refine vx_sipush (n := 200) (q := 174) (by decide +kernel) ?_
    refine vx_icmp_le (off := 7) (q := 177) (t := 181) (by decide +kernel) (vx_rI_J h3 625 32) (by decide) (fun c4 => ?_) (fun c4 => ?_)
    · replace H := H.1 c4
      refine vx_iconst (n := 0) (q := 182) (by decide +kernel) ?_
      refine vx_putZ (idx := 422) (kd := 9) (s := 68) (fin := false) (q := 185) (by decide +kernel) (vx_Tk hT3 (by decide +kernel)) (Or.inl rfl) (fun h5 e5 => ?_)
      have hT5 := vx_TJ hT3 e5
      replace H := H h5 e5 hT5
      refine vx_retV (q := 186) (by decide +kernel) ?_
      exact H
    · replace H := H.2 c4
      refine vx_iconst (n := 1) (q := 178) (by decide +kernel) ?_
      refine vx_goto (off := 4) (q := 181) (t := 182) (by decide +kernel) ?_
      refine vx_putZ (idx := 422) (kd := 9) (s := 68) (fin := false) (q := 185) (by decide +kernel) (vx_Tk hT3 (by decide +kernel)) (Or.inr rfl) (fun h6 e6 => ?_)
      have hT6 := vx_TJ hT3 e6
      replace H := H h6 e6 hT6
      refine vx_retV (q := 186) (by decide +kernel) ?_
      exact H
  · replace H := H.2 c2
    refine vx_aload_n (n := 0) (q := 119) (by decide +kernel) rfl ?_
    refine vx_getR (b := 652) (idx := 93) (kd := 9) (s := 35) (fin := true) (q := 122) (by decide +kernel) (vx_Tk hT (by decide +kernel)) (vx_Tr hT (kd := 9) (by decide +kernel) (by decide +kernel) (by decide +kernel)) ?_
    refine vx_iconst (n := 4) (q := 123) (by decide +kernel) ?_
    refine vx_aload_n (n := 0) (q := 124) (by decide +kernel) rfl ?_
    refine vx_getI (idx := 357) (kd := 9) (s := 32) (fin := false) (q := 127) (by decide +kernel) (vx_Tk hT (by decide +kernel)) ?_
    refine vx_imul (q := 128) (by decide +kernel) ?_
    refine vx_iload_n (n := 2) (q := 129) (by decide +kernel) rfl ?_
    refine vx_iadd (q := 130) (by decide +kernel) ?_
    refine vx_iload_n (n := 2) (q := 131) (by decide +kernel) rfl ?_
    refine vx_aload_n (n := 0) (q := 132) (by decide +kernel) rfl ?_
    refine vx_iload_n (n := 1) (q := 133) (by decide +kernel) rfl ?_
    refine vx_callI (i := .invokevirtual 440) (how := 3) (cm := 83) (np := 2) (q := 136) (args := [.ref 625, .int (vx_i v1)]) (rest := [.int (vx_i v2), .int (vx_i ((4 * (vx_J h 625 32)) + v2)), .ref 652]) (by decide +kernel) rfl rfl rfl (vx_w2 (w := 2) (ml := 2) rfl (by decide +kernel)) (vx_rcv (kd := 9) (vx_Tk hT (by decide +kernel)) (by decide +kernel)) H (fun r7 h7 hr7 hs7 H => ?_)
    have hT7 := vx_Tsh hT hs7
    replace H := H hT7
    refine vx_icmp_ge (off := 12) (q := 139) (t := 148) (by decide +kernel) k1 hr7 (fun c8 => ?_) (fun c8 => ?_)
    · replace H := H.1 c8
      refine vx_lconst (n := 0) (m := 0) (q := 149) (by decide +kernel) ?_
      obtain ⟨k9, H⟩ := H
      refine vx_lastore (z := 1040) (q := 150) (by decide +kernel) (vx_Tk hT7 (by decide +kernel)) (vx_Tz hT7 (by decide +kernel)) (vx_ix k9 (by decide)) (fun h10 e10 => ?_)
      have hT10 := vx_TK hT7 e10
      replace H := H h10 e10 hT10
      refine vx_iinc (n := 2) (m := 1) (x := v2) (q := 153) (lv' := [some (.ref 625), some (.int (vx_i v1)), some (.int (vx_i (v2 + 1))), v3, v4]) (by decide +kernel) rfl rfl ?_
      refine vx_goto (off := (-40)) (q := 156) (t := 113) (by decide +kernel) ?_
      exact H
    · replace H := H.2 c8
      refine vx_aload_n (n := 0) (q := 140) (by decide +kernel) rfl ?_
      refine vx_getR (b := 669) (idx := 145) (kd := 9) (s := 74) (fin := true) (q := 143) (by decide +kernel) (vx_Tk hT7 (by decide +kernel)) (vx_Tr hT7 (kd := 9) (by decide +kernel) (by decide +kernel) (by decide +kernel)) ?_
      refine vx_iload_n (n := 2) (q := 144) (by decide +kernel) rfl ?_
      obtain ⟨k11, H⟩ := H
      refine vx_laload (z := 4) (q := 145) (by decide +kernel) (vx_Tk hT7 (by decide +kernel)) (vx_Tz hT7 (by decide +kernel)) (vx_ix k11 (by decide)) ?_
      refine vx_goto (off := 4) (q := 148) (t := 149) (by decide +kernel) ?_
      obtain ⟨k12, H⟩ := H
      refine vx_lastore (z := 1040) (q := 150) (by decide +kernel) (vx_Tk hT7 (by decide +kernel)) (vx_Tz hT7 (by decide +kernel)) (vx_ix k12 (by decide)) (fun h13 e13 => ?_)
      have hT13 := vx_TK hT7 e13
      replace H := H h13 e13 hT13
      refine vx_iinc (n := 2) (m := 1) (x := v2) (q := 153) (lv' := [some (.ref 625), some (.int (vx_i v1)), some (.int (vx_i (v2 + 1))), v3, v4]) (by decide +kernel) rfl rfl ?_
      refine vx_goto (off := (-40)) (q := 156) (t := 113) (by decide +kernel) ?_
      exact H
-- RuleHouseModel.makeTuple()V
theorem vg_85 {d : Nat} {h : ve_H} {P : ve_H → Prop}  (hT : vx_T 625 672 h) (H : vx_W (d + 1) 85 2 [some (.ref 625), some (.int (vx_i 0))] [] h (vx_RV P)) : vx_CV (d + 1) 85 [.ref 625] h P := by
  refine vx_enter (ml := 2) (by decide +kernel) ?_
  show vx_W _ _ 0 [some (.ref 625), none] [] h _
  refine vx_iconst (n := 0) (q := 1) (by decide +kernel) ?_
  refine vx_istore_n (n := 1) (q := 2) (lv' := [some (.ref 625), some (.int (vx_i 0))]) (by decide +kernel) rfl ?_
  exact H
theorem vg_85_2 {d : Nat} {h : ve_H} {P : ve_H → Prop} {v1 : Int} (hT : vx_T 625 672 h) (H : (0 ≤ (vx_J h 625 42) ∧ (vx_J h 625 42) < 61) ∧ vx_CI d 83 [.ref 625, .int (vx_i (vx_J h 636 (vx_J h 625 42).toNat))] h (fun r2 h2 => vx_T 625 672 h2 → (vx_rI v1) ∧ ((r2 ≤ v1 → (0 ≤ (vx_J h2 625 42) ∧ (vx_J h2 625 42) < 61) ∧ vx_CV d 84 [.ref 625, .int (vx_i (vx_J h2 636 (vx_J h2 625 42).toNat))] h2 (fun h6 => vx_T 625 672 h6 → P h6)) ∧ (v1 < r2 → vx_CL d 82 [.ref 625, .int (vx_i v1)] h2 (fun r7 h7 => vx_T 625 672 h7 → (0 ≤ v1 ∧ v1 < 4) ∧ (∀ h9, h9 = vx_sK h7 669 v1.toNat r7 → vx_T 625 672 h9 → vx_W (d + 1) 85 2 [some (.ref 625), some (.int (vx_i (v1 + 1)))] [] h9 (vx_RV P))))))) : vx_W (d + 1) 85 2 [some (.ref 625), some (.int (vx_i v1))] [] h (vx_RV P) := by
  refine vx_iload_n (n := 1) (q := 3) (by decide +kernel) rfl ?_
  refine vx_aload_n (n := 0) (q := 4) (by decide +kernel) rfl ?_
  refine vx_aload_n (n := 0) (q := 5) (by decide +kernel) rfl ?_
  refine vx_getR (b := 636) (idx := 41) (kd := 9) (s := 17) (fin := true) (q := 8) (by decide +kernel) (vx_Tk hT (by decide +kernel)) (vx_Tr hT (kd := 9) (by decide +kernel) (by decide +kernel) (by decide +kernel)) ?_
  refine vx_aload_n (n := 0) (q := 9) (by decide +kernel) rfl ?_
  refine vx_getI (idx := 223) (kd := 9) (s := 42) (fin := false) (q := 12) (by decide +kernel) (vx_Tk hT (by decide +kernel)) ?_
  obtain ⟨k1, H⟩ := H
  refine vx_iaload (z := 61) (q := 13) (by decide +kernel) (vx_Tk hT (by decide +kernel)) (vx_Tz hT (by decide +kernel)) (vx_ix k1 (by decide)) ?_
  refine vx_callI (i := .invokevirtual 440) (how := 3) (cm := 83) (np := 2) (q := 16) (args := [.ref 625, .int (vx_i (vx_J h 636 (vx_J h 625 42).toNat))]) (rest := [.int (vx_i v1)]) (by decide +kernel) rfl rfl rfl (vx_w2 (w := 2) (ml := 2) rfl (by decide +kernel)) (vx_rcv (kd := 9) (vx_Tk hT (by decide +kernel)) (by decide +kernel)) H (fun r2 h2 hr2 hs2 H => ?_)
  have hT2 := vx_Tsh hT hs2
  replace H := H hT2
  obtain ⟨k3, H⟩ := H
  refine vx_icmp_ge (off := 20) (q := 19) (t := 36) (by decide +kernel) k3 hr2 (fun c4 => ?_) (fun c4 => ?_)
  · replace H := H.1 c4
    refine vx_aload_n (n := 0) (q := 37) (by decide +kernel) rfl ?_
    refine vx_aload_n (n := 0) (q := 38) (by decide +kernel) rfl ?_
    refine vx_getR (b := 636) (idx := 41) (kd := 9) (s := 17) (fin := true) (q := 41) (by decide +kernel) (vx_Tk hT2 (by decide +kernel)) (vx_Tr hT2 (kd := 9) (by decide +kernel) (by decide +kernel) (by decide +kernel)) ?_
    refine vx_aload_n (n := 0) (q := 42) (by decide +kernel) rfl ?_
    refine vx_getI (idx := 223) (kd := 9) (s := 42) (fin := false) (q := 45) (by decide +kernel) (vx_Tk hT2 (by decide +kernel)) ?_
    obtain ⟨k5, H⟩ := H
    refine vx_iaload (z := 61) (q := 46) (by decide +kernel) (vx_Tk hT2 (by decide +kernel)) (vx_Tz hT2 (by decide +kernel)) (vx_ix k5 (by decide)) ?_
    refine vx_callV (i := .invokevirtual 450) (how := 3) (cm := 84) (np := 2) (q := 49) (args := [.ref 625, .int (vx_i (vx_J h2 636 (vx_J h2 625 42).toNat))]) (rest := []) (by decide +kernel) rfl rfl rfl (vx_w2 (w := 2) (ml := 5) rfl (by decide +kernel)) (vx_rcv (kd := 9) (vx_Tk hT2 (by decide +kernel)) (by decide +kernel)) H (fun h6 hs6 H => ?_)
    have hT6 := vx_Tsh hT2 hs6
    replace H := H hT6
    refine vx_retV (q := 50) (by decide +kernel) ?_
    exact H
  · replace H := H.2 c4
    refine vx_aload_n (n := 0) (q := 20) (by decide +kernel) rfl ?_
    refine vx_getR (b := 669) (idx := 145) (kd := 9) (s := 74) (fin := true) (q := 23) (by decide +kernel) (vx_Tk hT2 (by decide +kernel)) (vx_Tr hT2 (kd := 9) (by decide +kernel) (by decide +kernel) (by decide +kernel)) ?_
    refine vx_iload_n (n := 1) (q := 24) (by decide +kernel) rfl ?_
    refine vx_aload_n (n := 0) (q := 25) (by decide +kernel) rfl ?_
    refine vx_iload_n (n := 1) (q := 26) (by decide +kernel) rfl ?_
    refine vx_callL (i := .invokevirtual 446) (how := 3) (cm := 82) (np := 2) (q := 29) (args := [.ref 625, .int (vx_i v1)]) (rest := [.int (vx_i v1), .ref 669]) (by decide +kernel) rfl rfl rfl (vx_w2 (w := 2) (ml := 2) rfl (by decide +kernel)) (vx_rcv (kd := 9) (vx_Tk hT2 (by decide +kernel)) (by decide +kernel)) H (fun r7 h7 hr7 hs7 H => ?_)
    have hT7 := vx_Tsh hT2 hs7
    replace H := H hT7
    obtain ⟨k8, H⟩ := H
    refine vx_lastore (z := 4) (q := 30) (by decide +kernel) (vx_Tk hT7 (by decide +kernel)) (vx_Tz hT7 (by decide +kernel)) (vx_ix k8 (by decide)) (fun h9 e9 => ?_)
    have hT9 := vx_TK hT7 e9
    replace H := H h9 e9 hT9
    refine vx_iinc (n := 1) (m := 1) (x := v1) (q := 33) (lv' := [some (.ref 625), some (.int (vx_i (v1 + 1)))]) (by decide +kernel) rfl rfl ?_
    refine vx_goto (off := (-31)) (q := 36) (t := 2) (by decide +kernel) ?_
    exact H
-- RuleHouseModel.makeTotal()V
theorem vg_86 {d : Nat} {h : ve_H} {P : ve_H → Prop}  (hT : vx_T 625 672 h) (H : (0 ≤ (vx_J h 625 42) ∧ (vx_J h 625 42) < 61) ∧ vx_CI d 83 [.ref 625, .int (vx_i (vx_J h 636 (vx_J h 625 42).toNat))] h (fun r2 h2 => vx_T 625 672 h2 → (0 ≤ (vx_J h2 625 42) ∧ (vx_J h2 625 42) < 61) ∧ vx_W (d + 1) 86 26 [some (.ref 625), some (.int (vx_i r2)), some (.int (vx_i (vx_J h2 640 (vx_J h2 625 42).toNat))), some (.int (vx_i 0)), none, none, none, none] [] h2 (vx_RV P))) : vx_CV (d + 1) 86 [.ref 625] h P := by
  refine vx_enter (ml := 8) (by decide +kernel) ?_
  show vx_W _ _ 0 [some (.ref 625), none, none, none, none, none, none, none] [] h _
  refine vx_aload_n (n := 0) (q := 1) (by decide +kernel) rfl ?_
  refine vx_aload_n (n := 0) (q := 2) (by decide +kernel) rfl ?_
  refine vx_getR (b := 636) (idx := 41) (kd := 9) (s := 17) (fin := true) (q := 5) (by decide +kernel) (vx_Tk hT (by decide +kernel)) (vx_Tr hT (kd := 9) (by decide +kernel) (by decide +kernel) (by decide +kernel)) ?_
  refine vx_aload_n (n := 0) (q := 6) (by decide +kernel) rfl ?_
  refine vx_getI (idx := 223) (kd := 9) (s := 42) (fin := false) (q := 9) (by decide +kernel) (vx_Tk hT (by decide +kernel)) ?_
  obtain ⟨k1, H⟩ := H
  refine vx_iaload (z := 61) (q := 10) (by decide +kernel) (vx_Tk hT (by decide +kernel)) (vx_Tz hT (by decide +kernel)) (vx_ix k1 (by decide)) ?_
  refine vx_callI (i := .invokevirtual 440) (how := 3) (cm := 83) (np := 2) (q := 13) (args := [.ref 625, .int (vx_i (vx_J h 636 (vx_J h 625 42).toNat))]) (rest := []) (by decide +kernel) rfl rfl rfl (vx_w2 (w := 2) (ml := 2) rfl (by decide +kernel)) (vx_rcv (kd := 9) (vx_Tk hT (by decide +kernel)) (by decide +kernel)) H (fun r2 h2 hr2 hs2 H => ?_)
  have hT2 := vx_Tsh hT hs2
  replace H := H hT2
  refine vx_istore_n (n := 1) (q := 14) (lv' := [some (.ref 625), some (.int (vx_i r2)), none, none, none, none, none, none]) (by decide +kernel) rfl ?_
  refine vx_aload_n (n := 0) (q := 15) (by decide +kernel) rfl ?_
  refine vx_getR (b := 640) (idx := 53) (kd := 9) (s := 21) (fin := true) (q := 18) (by decide +kernel) (vx_Tk hT2 (by decide +kernel)) (vx_Tr hT2 (kd := 9) (by decide +kernel) (by decide +kernel) (by decide +kernel)) ?_
  refine vx_aload_n (n := 0) (q := 19) (by decide +kernel) rfl ?_
  refine vx_getI (idx := 223) (kd := 9) (s := 42) (fin := false) (q := 22) (by decide +kernel) (vx_Tk hT2 (by decide +kernel)) ?_
  obtain ⟨k3, H⟩ := H
  refine vx_iaload (z := 61) (q := 23) (by decide +kernel) (vx_Tk hT2 (by decide +kernel)) (vx_Tz hT2 (by decide +kernel)) (vx_ix k3 (by decide)) ?_
  refine vx_istore_n (n := 2) (q := 24) (lv' := [some (.ref 625), some (.int (vx_i r2)), some (.int (vx_i (vx_J h2 640 (vx_J h2 625 42).toNat))), none, none, none, none, none]) (by decide +kernel) rfl ?_
  refine vx_iconst (n := 0) (q := 25) (by decide +kernel) ?_
  refine vx_istore_n (n := 3) (q := 26) (lv' := [some (.ref 625), some (.int (vx_i r2)), some (.int (vx_i (vx_J h2 640 (vx_J h2 625 42).toNat))), some (.int (vx_i 0)), none, none, none, none]) (by decide +kernel) rfl ?_
  exact H
theorem vg_86_26 {d : Nat} {h : ve_H} {P : ve_H → Prop} {v1 : Int} {v2 : Int} {v3 : Int} (hT : vx_T 625 672 h) (H : (vx_rI v3) ∧ (vx_rI v1) ∧ ((v1 ≤ v3 → vx_CL d 82 [.ref 625, .int (vx_i v2)] h (fun r4 h4 => vx_T 625 672 h4 → vx_W (d + 1) 86 66 [some (.ref 625), some (.int (vx_i v1)), some (.int (vx_i v2)), some (.long (vx_l r4)), none, some (.int (vx_i 0)), none, none] [] h4 (vx_RV P))) ∧ (v3 < v1 → (vx_rI v2) ∧ ((v3 ≠ v2 → vx_CL d 82 [.ref 625, .int (vx_i v3)] h (fun r7 h7 => vx_T 625 672 h7 → (0 ≤ v3 ∧ v3 < 4) ∧ (∀ h9, h9 = vx_sK h7 669 v3.toNat r7 → vx_T 625 672 h9 → vx_W (d + 1) 86 26 [some (.ref 625), some (.int (vx_i v1)), some (.int (vx_i v2)), some (.int (vx_i (v3 + 1))), none, none, none, none] [] h9 (vx_RV P)))) ∧ (v3 = v2 → (0 ≤ v3 ∧ v3 < 4) ∧ (∀ h11, h11 = vx_sK h 669 v3.toNat 0 → vx_T 625 672 h11 → vx_W (d + 1) 86 26 [some (.ref 625), some (.int (vx_i v1)), some (.int (vx_i v2)), some (.int (vx_i (v3 + 1))), none, none, none, none] [] h11 (vx_RV P))))))) : vx_W (d + 1) 86 26 [some (.ref 625), some (.int (vx_i v1)), some (.int (vx_i v2)), some (.int (vx_i v3)), none, none, none, none] [] h (vx_RV P) := by
  refine vx_iload_n (n := 3) (q := 27) (by decide +kernel) rfl ?_
  refine vx_iload_n (n := 1) (q := 28) (by decide +kernel) rfl ?_
  obtain ⟨k1, H⟩ := H
  obtain ⟨k2, H⟩ := H
  refine vx_icmp_ge (off := 29) (q := 31) (t := 57) (by decide +kernel) k1 k2 (fun c3 => ?_) (fun c3 => ?_)
  · replace H := H.1 c3
    refine vx_aload_n (n := 0) (q := 58) (by decide +kernel) rfl ?_
    refine vx_iload_n (n := 2) (q := 59) (by decide +kernel) rfl ?_
    refine vx_callL (i := .invokevirtual 446) (how := 3) (cm := 82) (np := 2) (q := 62) (args := [.ref 625, .int (vx_i v2)]) (rest := []) (by decide +kernel) rfl rfl rfl (vx_w2 (w := 2) (ml := 2) rfl (by decide +kernel)) (vx_rcv (kd := 9) (vx_Tk hT (by decide +kernel)) (by decide +kernel)) H (fun r4 h4 hr4 hs4 H => ?_)
    have hT4 := vx_Tsh hT hs4
    replace H := H hT4
    refine vx_lstore_n (n := 3) (q := 63) (lv' := [some (.ref 625), some (.int (vx_i v1)), some (.int (vx_i v2)), some (.long (vx_l r4)), none, none, none, none]) (by decide +kernel) rfl ?_
    refine vx_iconst (n := 0) (q := 64) (by decide +kernel) ?_
    refine vx_istore (n := 5) (q := 66) (lv' := [some (.ref 625), some (.int (vx_i v1)), some (.int (vx_i v2)), some (.long (vx_l r4)), none, some (.int (vx_i 0)), none, none]) (by decide +kernel) rfl ?_
    exact H
  · replace H := H.2 c3
    refine vx_aload_n (n := 0) (q := 32) (by decide +kernel) rfl ?_
    refine vx_getR (b := 669) (idx := 145) (kd := 9) (s := 74) (fin := true) (q := 35) (by decide +kernel) (vx_Tk hT (by decide +kernel)) (vx_Tr hT (kd := 9) (by decide +kernel) (by decide +kernel) (by decide +kernel)) ?_
    refine vx_iload_n (n := 3) (q := 36) (by decide +kernel) rfl ?_
    refine vx_iload_n (n := 3) (q := 37) (by decide +kernel) rfl ?_
    refine vx_iload_n (n := 2) (q := 38) (by decide +kernel) rfl ?_
    obtain ⟨k5, H⟩ := H
    refine vx_icmp_ne (off := 7) (q := 41) (t := 45) (by decide +kernel) k1 k5 (fun c6 => ?_) (fun c6 => ?_)
    · replace H := H.1 c6
      refine vx_aload_n (n := 0) (q := 46) (by decide +kernel) rfl ?_
      refine vx_iload_n (n := 3) (q := 47) (by decide +kernel) rfl ?_
      refine vx_callL (i := .invokevirtual 446) (how := 3) (cm := 82) (np := 2) (q := 50) (args := [.ref 625, .int (vx_i v3)]) (rest := [.int (vx_i v3), .ref 669]) (by decide +kernel) rfl rfl rfl (vx_w2 (w := 2) (ml := 2) rfl (by decide +kernel)) (vx_rcv (kd := 9) (vx_Tk hT (by decide +kernel)) (by decide +kernel)) H (fun r7 h7 hr7 hs7 H => ?_)
      have hT7 := vx_Tsh hT hs7
      replace H := H hT7
      obtain ⟨k8, H⟩ := H
      refine vx_lastore (z := 4) (q := 51) (by decide +kernel) (vx_Tk hT7 (by decide +kernel)) (vx_Tz hT7 (by decide +kernel)) (vx_ix k8 (by decide)) (fun h9 e9 => ?_)
      have hT9 := vx_TK hT7 e9
      replace H := H h9 e9 hT9
      refine vx_iinc (n := 3) (m := 1) (x := v3) (q := 54) (lv' := [some (.ref 625), some (.int (vx_i v1)), some (.int (vx_i v2)), some (.int (vx_i (v3 + 1))), none, none, none, none]) (by decide +kernel) rfl rfl ?_
      refine vx_goto (off := (-28)) (q := 57) (t := 26) (by decide +kernel) ?_
      exact H
    · replace H := H.2 c6
      refine vx_lconst (n := 0) (m := 0) (q := 42) (by decide +kernel) ?_
      refine vx_goto (off := 8) (q := 45) (t := 50) (by decide +kernel) ?_
      obtain ⟨k10, H⟩ := H
      refine vx_lastore (z := 4) (q := 51) (by decide +kernel) (vx_Tk hT (by decide +kernel)) (vx_Tz hT (by decide +kernel)) (vx_ix k10 (by decide)) (fun h11 e11 => ?_)
      have hT11 := vx_TK hT e11
      replace H := H h11 e11 hT11
      refine vx_iinc (n := 3) (m := 1) (x := v3) (q := 54) (lv' := [some (.ref 625), some (.int (vx_i v1)), some (.int (vx_i v2)), some (.int (vx_i (v3 + 1))), none, none, none, none]) (by decide +kernel) rfl rfl ?_
      refine vx_goto (off := (-28)) (q := 57) (t := 26) (by decide +kernel) ?_
      exact H
theorem vg_86_66 {d : Nat} {h : ve_H} {P : ve_H → Prop} {v1 : Int} {v2 : Int} {v3 : Int} {v5 : Int} (hT : vx_T 625 672 h) (H : (vx_rI v5) ∧ (((vx_J h 625 75) ≤ v5 → ((v5 ≠ (vx_J h 625 75) → (0 ≤ (vx_J h 625 42) ∧ (vx_J h 625 42) < 61) ∧ (((vx_J h 639 (vx_J h 625 42).toNat) = 2 → (0 ≤ v5 ∧ v5 < 202) ∧ (vx_rI ((vx_K h 671 v5.toNat) + 1)) ∧ (0 ≤ v5 ∧ v5 < 202) ∧ (∀ h9, h9 = vx_sK h 671 v5.toNat ((vx_K h 671 v5.toNat) + 1) → vx_T 625 672 h9 → P h9)) ∧ ((vx_J h 639 (vx_J h 625 42).toNat) = 3 → vx_CI d 66 [.long (vx_l v3)] h (fun r10 h10 => vx_T 625 672 h10 → ((r10 = 0 → (0 ≤ v5 ∧ v5 < 202) ∧ (vx_rI ((vx_K h10 671 v5.toNat) + v3)) ∧ (0 ≤ v5 ∧ v5 < 202) ∧ (∀ h15, h15 = vx_sK h10 671 v5.toNat ((vx_K h10 671 v5.toNat) + v3) → vx_T 625 672 h15 → P h15)) ∧ (r10 ≠ 0 → (0 ≤ v5 ∧ v5 < 202) ∧ (0 ≤ v5 ∧ v5 < 202) ∧ (∀ h18, h18 = vx_sK h10 671 v5.toNat (vx_K h10 671 v5.toNat) → vx_T 625 672 h18 → P h18))))) ∧ ((vx_J h 639 (vx_J h 625 42).toNat) = 4 → (0 ≤ v5 ∧ v5 < 202) ∧ vx_CI d 67 [.long (vx_l v3), .long (vx_l (vx_K h 671 v5.toNat))] h (fun r20 h20 => vx_T 625 672 h20 → ((0 ≤ r20 → (0 ≤ v5 ∧ v5 < 202) ∧ (0 ≤ v5 ∧ v5 < 202) ∧ (∀ h24, h24 = vx_sK h20 671 v5.toNat (vx_K h20 671 v5.toNat) → vx_T 625 672 h24 → P h24)) ∧ (r20 < 0 → (0 ≤ v5 ∧ v5 < 202) ∧ (∀ h26, h26 = vx_sK h20 671 v5.toNat v3 → vx_T 625 672 h26 → P h26))))) ∧ ((vx_J h 639 (vx_J h 625 42).toNat) ≠ 2 ∧ (vx_J h 639 (vx_J h 625 42).toNat) ≠ 3 ∧ (vx_J h 639 (vx_J h 625 42).toNat) ≠ 4 ∧ True → (0 ≤ v5 ∧ v5 < 202) ∧ vx_CI d 67 [.long (vx_l v3), .long (vx_l (vx_K h 671 v5.toNat))] h (fun r28 h28 => vx_T 625 672 h28 → ((r28 ≤ 0 → (0 ≤ v5 ∧ v5 < 202) ∧ (0 ≤ v5 ∧ v5 < 202) ∧ (∀ h32, h32 = vx_sK h28 671 v5.toNat (vx_K h28 671 v5.toNat) → vx_T 625 672 h32 → P h32)) ∧ (0 < r28 → (0 ≤ v5 ∧ v5 < 202) ∧ (∀ h34, h34 = vx_sK h28 671 v5.toNat v3 → vx_T 625 672 h34 → P h34))))))) ∧ (v5 = (vx_J h 625 75) → (((vx_J h 625 75) ≤ 200 → vx_W (d + 1) 86 131 [some (.ref 625), some (.int (vx_i v1)), some (.int (vx_i v2)), some (.long (vx_l v3)), none, some (.int (vx_i v5)), some (.int (vx_i 1)), some (.int (vx_i 0))] [] h (vx_RV P)) ∧ (200 < (vx_J h 625 75) → (∀ h36, h36 = vx_sJ h 625 68 1 → vx_T 625 672 h36 → P h36)))))) ∧ (v5 < (vx_J h 625 75) → vx_CI d 87 [.ref 625, .int (vx_i v5), .int (vx_i v1)] h (fun r37 h37 => vx_T 625 672 h37 → ((r37 ≠ 0 → ((v5 ≠ (vx_J h37 625 75) → (0 ≤ (vx_J h37 625 42) ∧ (vx_J h37 625 42) < 61) ∧ (((vx_J h37 639 (vx_J h37 625 42).toNat) = 2 → (0 ≤ v5 ∧ v5 < 202) ∧ (vx_rI ((vx_K h37 671 v5.toNat) + 1)) ∧ (0 ≤ v5 ∧ v5 < 202) ∧ (∀ h45, h45 = vx_sK h37 671 v5.toNat ((vx_K h37 671 v5.toNat) + 1) → vx_T 625 672 h45 → P h45)) ∧ ((vx_J h37 639 (vx_J h37 625 42).toNat) = 3 → vx_CI d 66 [.long (vx_l v3)] h37 (fun r46 h46 => vx_T 625 672 h46 → ((r46 = 0 → (0 ≤ v5 ∧ v5 < 202) ∧ (vx_rI ((vx_K h46 671 v5.toNat) + v3)) ∧ (0 ≤ v5 ∧ v5 < 202) ∧ (∀ h51, h51 = vx_sK h46 671 v5.toNat ((vx_K h46 671 v5.toNat) + v3) → vx_T 625 672 h51 → P h51)) ∧ (r46 ≠ 0 → (0 ≤ v5 ∧ v5 < 202) ∧ (0 ≤ v5 ∧ v5 < 202) ∧ (∀ h54, h54 = vx_sK h46 671 v5.toNat (vx_K h46 671 v5.toNat) → vx_T 625 672 h54 → P h54))))) ∧ ((vx_J h37 639 (vx_J h37 625 42).toNat) = 4 → (0 ≤ v5 ∧ v5 < 202) ∧ vx_CI d 67 [.long (vx_l v3), .long (vx_l (vx_K h37 671 v5.toNat))] h37 (fun r56 h56 => vx_T 625 672 h56 → ((0 ≤ r56 → (0 ≤ v5 ∧ v5 < 202) ∧ (0 ≤ v5 ∧ v5 < 202) ∧ (∀ h60, h60 = vx_sK h56 671 v5.toNat (vx_K h56 671 v5.toNat) → vx_T 625 672 h60 → P h60)) ∧ (r56 < 0 → (0 ≤ v5 ∧ v5 < 202) ∧ (∀ h62, h62 = vx_sK h56 671 v5.toNat v3 → vx_T 625 672 h62 → P h62))))) ∧ ((vx_J h37 639 (vx_J h37 625 42).toNat) ≠ 2 ∧ (vx_J h37 639 (vx_J h37 625 42).toNat) ≠ 3 ∧ (vx_J h37 639 (vx_J h37 625 42).toNat) ≠ 4 ∧ True → (0 ≤ v5 ∧ v5 < 202) ∧ vx_CI d 67 [.long (vx_l v3), .long (vx_l (vx_K h37 671 v5.toNat))] h37 (fun r64 h64 => vx_T 625 672 h64 → ((r64 ≤ 0 → (0 ≤ v5 ∧ v5 < 202) ∧ (0 ≤ v5 ∧ v5 < 202) ∧ (∀ h68, h68 = vx_sK h64 671 v5.toNat (vx_K h64 671 v5.toNat) → vx_T 625 672 h68 → P h68)) ∧ (0 < r64 → (0 ≤ v5 ∧ v5 < 202) ∧ (∀ h70, h70 = vx_sK h64 671 v5.toNat v3 → vx_T 625 672 h70 → P h70))))))) ∧ (v5 = (vx_J h37 625 75) → (((vx_J h37 625 75) ≤ 200 → vx_W (d + 1) 86 131 [some (.ref 625), some (.int (vx_i v1)), some (.int (vx_i v2)), some (.long (vx_l v3)), none, some (.int (vx_i v5)), some (.int (vx_i 1)), some (.int (vx_i 0))] [] h37 (vx_RV P)) ∧ (200 < (vx_J h37 625 75) → (∀ h72, h72 = vx_sJ h37 625 68 1 → vx_T 625 672 h72 → P h72)))))) ∧ (r37 = 0 → vx_W (d + 1) 86 66 [some (.ref 625), some (.int (vx_i v1)), some (.int (vx_i v2)), some (.long (vx_l v3)), none, some (.int (vx_i (v5 + 1))), none, none] [] h37 (vx_RV P))))))) : vx_W (d + 1) 86 66 [some (.ref 625), some (.int (vx_i v1)), some (.int (vx_i v2)), some (.long (vx_l v3)), none, some (.int (vx_i v5)), none, none] [] h (vx_RV P) := by
  refine vx_iload (n := 5) (q := 68) (by decide +kernel) rfl ?_
  refine vx_aload_n (n := 0) (q := 69) (by decide +kernel) rfl ?_
  refine vx_getI (idx := 453) (kd := 9) (s := 75) (fin := false) (q := 72) (by decide +kernel) (vx_Tk hT (by decide +kernel)) ?_
  obtain ⟨k1, H⟩ := H
  refine vx_icmp_ge (off := 19) (q := 75) (t := 91) (by decide +kernel) k1 (vx_rI_J h 625 75) (fun c2 => ?_) (fun c2 => ?_)
  · replace H := H.1 c2
    refine vx_iload (n := 5) (q := 93) (by decide +kernel) rfl ?_
    refine vx_aload_n (n := 0) (q := 94) (by decide +kernel) rfl ?_
    refine vx_getI (idx := 453) (kd := 9) (s := 75) (fin := false) (q := 97) (by decide +kernel) (vx_Tk hT (by decide +kernel)) ?_
    refine vx_icmp_ne (off := 7) (q := 100) (t := 104) (by decide +kernel) k1 (vx_rI_J h 625 75) (fun c3 => ?_) (fun c3 => ?_)
    · replace H := H.1 c3
      refine vx_iconst (n := 0) (q := 105) (by decide +kernel) ?_
      refine vx_istore (n := 6) (q := 107) (lv' := [some (.ref 625), some (.int (vx_i v1)), some (.int (vx_i v2)), some (.long (vx_l v3)), none, some (.int (vx_i v5)), some (.int (vx_i 0)), none]) (by decide +kernel) rfl ?_
      refine vx_iload (n := 6) (q := 109) (by decide +kernel) rfl ?_
      refine vx_if0_eq (off := 101) (q := 112) (t := 210) (by decide +kernel) (by decide) (fun _ => ?_) (fun c => absurd c (by decide))
      refine vx_aload_n (n := 0) (q := 211) (by decide +kernel) rfl ?_
      refine vx_getR (b := 639) (idx := 50) (kd := 9) (s := 20) (fin := true) (q := 214) (by decide +kernel) (vx_Tk hT (by decide +kernel)) (vx_Tr hT (kd := 9) (by decide +kernel) (by decide +kernel) (by decide +kernel)) ?_
      refine vx_aload_n (n := 0) (q := 215) (by decide +kernel) rfl ?_
      refine vx_getI (idx := 223) (kd := 9) (s := 42) (fin := false) (q := 218) (by decide +kernel) (vx_Tk hT (by decide +kernel)) ?_
      obtain ⟨k4, H⟩ := H
      refine vx_iaload (z := 61) (q := 219) (by decide +kernel) (vx_Tk hT (by decide +kernel)) (vx_Tz hT (by decide +kernel)) (vx_ix k4 (by decide)) ?_
      refine vx_tsw (dd := 120) (lo := 2) (hi := 4) (offs := #[25, 46, 85]) (tl := [(2, 244), (3, 265), (4, 304)]) (td := 339) (q := 244) (by decide +kernel) (vx_rI_J h 639 (vx_J h 625 42).toNat) ⟨fun c5 => ?_, fun c5 => ?_, fun c5 => ?_, trivial⟩ (fun c5 => ?_)
      · replace H := H.1 c5
        refine vx_aload_n (n := 0) (q := 245) (by decide +kernel) rfl ?_
        refine vx_getR (b := 671) (idx := 151) (kd := 9) (s := 77) (fin := true) (q := 248) (by decide +kernel) (vx_Tk hT (by decide +kernel)) (vx_Tr hT (kd := 9) (by decide +kernel) (by decide +kernel) (by decide +kernel)) ?_
        refine vx_iload (n := 5) (q := 250) (by decide +kernel) rfl ?_
        refine vx_aload_n (n := 0) (q := 251) (by decide +kernel) rfl ?_
        refine vx_getR (b := 671) (idx := 151) (kd := 9) (s := 77) (fin := true) (q := 254) (by decide +kernel) (vx_Tk hT (by decide +kernel)) (vx_Tr hT (kd := 9) (by decide +kernel) (by decide +kernel) (by decide +kernel)) ?_
        refine vx_iload (n := 5) (q := 256) (by decide +kernel) rfl ?_
        obtain ⟨k6, H⟩ := H
        refine vx_laload (z := 202) (q := 257) (by decide +kernel) (vx_Tk hT (by decide +kernel)) (vx_Tz hT (by decide +kernel)) (vx_ix k6 (by decide)) ?_
        refine vx_l2i (q := 258) (by decide +kernel) ?_
        refine vx_iconst (n := 1) (q := 259) (by decide +kernel) ?_
        refine vx_iadd (q := 260) (by decide +kernel) ?_
        obtain ⟨k7, H⟩ := H
        refine vx_i2l (q := 261) (by decide +kernel) k7 ?_
        obtain ⟨k8, H⟩ := H
        refine vx_lastore (z := 202) (q := 262) (by decide +kernel) (vx_Tk hT (by decide +kernel)) (vx_Tz hT (by decide +kernel)) (vx_ix k8 (by decide)) (fun h9 e9 => ?_)
        have hT9 := vx_TK hT e9
        replace H := H h9 e9 hT9
        refine vx_goto (off := 109) (q := 265) (t := 371) (by decide +kernel) ?_
        refine vx_retV (q := 372) (by decide +kernel) ?_
        exact H
      · replace H := H.2.1 c5
        refine vx_aload_n (n := 0) (q := 266) (by decide +kernel) rfl ?_
        refine vx_getR (b := 671) (idx := 151) (kd := 9) (s := 77) (fin := true) (q := 269) (by decide +kernel) (vx_Tk hT (by decide +kernel)) (vx_Tr hT (kd := 9) (by decide +kernel) (by decide +kernel) (by decide +kernel)) ?_
        refine vx_iload (n := 5) (q := 271) (by decide +kernel) rfl ?_
        refine vx_lload_n (n := 3) (q := 272) (by decide +kernel) rfl ?_
        refine vx_callI (i := .invokestatic 364) (how := 4) (cm := 66) (np := 1) (q := 275) (args := [.long (vx_l v3)]) (rest := [.int (vx_i v5), .ref 671]) (by decide +kernel) rfl rfl rfl (vx_w2 (w := 2) (ml := 2) rfl (by decide +kernel)) rfl H (fun r10 h10 hr10 hs10 H => ?_)
        have hT10 := vx_Tsh hT hs10
        replace H := H hT10
        refine vx_if0_eq (off := 13) (q := 278) (t := 288) (by decide +kernel) hr10 (fun c11 => ?_) (fun c11 => ?_)
        · replace H := H.1 c11
          refine vx_aload_n (n := 0) (q := 289) (by decide +kernel) rfl ?_
          refine vx_getR (b := 671) (idx := 151) (kd := 9) (s := 77) (fin := true) (q := 292) (by decide +kernel) (vx_Tk hT10 (by decide +kernel)) (vx_Tr hT10 (kd := 9) (by decide +kernel) (by decide +kernel) (by decide +kernel)) ?_
          refine vx_iload (n := 5) (q := 294) (by decide +kernel) rfl ?_
          obtain ⟨k12, H⟩ := H
          refine vx_laload (z := 202) (q := 295) (by decide +kernel) (vx_Tk hT10 (by decide +kernel)) (vx_Tz hT10 (by decide +kernel)) (vx_ix k12 (by decide)) ?_
          refine vx_l2i (q := 296) (by decide +kernel) ?_
          refine vx_lload_n (n := 3) (q := 297) (by decide +kernel) rfl ?_
          refine vx_l2i (q := 298) (by decide +kernel) ?_
          refine vx_iadd (q := 299) (by decide +kernel) ?_
          obtain ⟨k13, H⟩ := H
          refine vx_i2l (q := 300) (by decide +kernel) k13 ?_
          obtain ⟨k14, H⟩ := H
          refine vx_lastore (z := 202) (q := 301) (by decide +kernel) (vx_Tk hT10 (by decide +kernel)) (vx_Tz hT10 (by decide +kernel)) (vx_ix k14 (by decide)) (fun h15 e15 => ?_)
          have hT15 := vx_TK hT10 e15
          replace H := H h15 e15 hT15
          refine vx_goto (off := 70) (q := 304) (t := 371) (by decide +kernel) ?_
          refine vx_retV (q := 372) (by decide +kernel) ?_
          exact H
        · replace H := H.2 c11
          refine vx_aload_n (n := 0) (q := 279) (by decide +kernel) rfl ?_
          refine vx_getR (b := 671) (idx := 151) (kd := 9) (s := 77) (fin := true) (q := 282) (by decide +kernel) (vx_Tk hT10 (by decide +kernel)) (vx_Tr hT10 (kd := 9) (by decide +kernel) (by decide +kernel) (by decide +kernel)) ?_
          refine vx_iload (n := 5) (q := 284) (by decide +kernel) rfl ?_
          obtain ⟨k16, H⟩ := H
          refine vx_laload (z := 202) (q := 285) (by decide +kernel) (vx_Tk hT10 (by decide +kernel)) (vx_Tz hT10 (by decide +kernel)) (vx_ix k16 (by decide)) ?_
          refine vx_goto (off := 15) (q := 288) (t := 300) (by decide +kernel) ?_
          obtain ⟨k17, H⟩ := H
          refine vx_lastore (z := 202) (q := 301) (by decide +kernel) (vx_Tk hT10 (by decide +kernel)) (vx_Tz hT10 (by decide +kernel)) (vx_ix k17 (by decide)) (fun h18 e18 => ?_)
          have hT18 := vx_TK hT10 e18
          replace H := H h18 e18 hT18
          refine vx_goto (off := 70) (q := 304) (t := 371) (by decide +kernel) ?_
          refine vx_retV (q := 372) (by decide +kernel) ?_
          exact H
      · replace H := H.2.2.1 c5
        refine vx_aload_n (n := 0) (q := 305) (by decide +kernel) rfl ?_
        refine vx_getR (b := 671) (idx := 151) (kd := 9) (s := 77) (fin := true) (q := 308) (by decide +kernel) (vx_Tk hT (by decide +kernel)) (vx_Tr hT (kd := 9) (by decide +kernel) (by decide +kernel) (by decide +kernel)) ?_
        refine vx_iload (n := 5) (q := 310) (by decide +kernel) rfl ?_
        refine vx_lload_n (n := 3) (q := 311) (by decide +kernel) rfl ?_
        refine vx_aload_n (n := 0) (q := 312) (by decide +kernel) rfl ?_
        refine vx_getR (b := 671) (idx := 151) (kd := 9) (s := 77) (fin := true) (q := 315) (by decide +kernel) (vx_Tk hT (by decide +kernel)) (vx_Tr hT (kd := 9) (by decide +kernel) (by decide +kernel) (by decide +kernel)) ?_
        refine vx_iload (n := 5) (q := 317) (by decide +kernel) rfl ?_
        obtain ⟨k19, H⟩ := H
        refine vx_laload (z := 202) (q := 318) (by decide +kernel) (vx_Tk hT (by decide +kernel)) (vx_Tz hT (by decide +kernel)) (vx_ix k19 (by decide)) ?_
        refine vx_callI (i := .invokestatic 375) (how := 4) (cm := 67) (np := 2) (q := 321) (args := [.long (vx_l v3), .long (vx_l (vx_K h 671 v5.toNat))]) (rest := [.int (vx_i v5), .ref 671]) (by decide +kernel) rfl rfl rfl (vx_w2 (w := 4) (ml := 8) rfl (by decide +kernel)) rfl H (fun r20 h20 hr20 hs20 H => ?_)
        have hT20 := vx_Tsh hT hs20
        replace H := H hT20
        refine vx_if0_ge (off := 7) (q := 324) (t := 328) (by decide +kernel) hr20 (fun c21 => ?_) (fun c21 => ?_)
        · replace H := H.1 c21
          refine vx_aload_n (n := 0) (q := 329) (by decide +kernel) rfl ?_
          refine vx_getR (b := 671) (idx := 151) (kd := 9) (s := 77) (fin := true) (q := 332) (by decide +kernel) (vx_Tk hT20 (by decide +kernel)) (vx_Tr hT20 (kd := 9) (by decide +kernel) (by decide +kernel) (by decide +kernel)) ?_
          refine vx_iload (n := 5) (q := 334) (by decide +kernel) rfl ?_
          obtain ⟨k22, H⟩ := H
          refine vx_laload (z := 202) (q := 335) (by decide +kernel) (vx_Tk hT20 (by decide +kernel)) (vx_Tz hT20 (by decide +kernel)) (vx_ix k22 (by decide)) ?_
          obtain ⟨k23, H⟩ := H
          refine vx_lastore (z := 202) (q := 336) (by decide +kernel) (vx_Tk hT20 (by decide +kernel)) (vx_Tz hT20 (by decide +kernel)) (vx_ix k23 (by decide)) (fun h24 e24 => ?_)
          have hT24 := vx_TK hT20 e24
          replace H := H h24 e24 hT24
          refine vx_goto (off := 35) (q := 339) (t := 371) (by decide +kernel) ?_
          refine vx_retV (q := 372) (by decide +kernel) ?_
          exact H
        · replace H := H.2 c21
          refine vx_lload_n (n := 3) (q := 325) (by decide +kernel) rfl ?_
          refine vx_goto (off := 10) (q := 328) (t := 335) (by decide +kernel) ?_
          obtain ⟨k25, H⟩ := H
          refine vx_lastore (z := 202) (q := 336) (by decide +kernel) (vx_Tk hT20 (by decide +kernel)) (vx_Tz hT20 (by decide +kernel)) (vx_ix k25 (by decide)) (fun h26 e26 => ?_)
          have hT26 := vx_TK hT20 e26
          replace H := H h26 e26 hT26
          refine vx_goto (off := 35) (q := 339) (t := 371) (by decide +kernel) ?_
          refine vx_retV (q := 372) (by decide +kernel) ?_
          exact H
      · replace H := H.2.2.2 c5
        refine vx_aload_n (n := 0) (q := 340) (by decide +kernel) rfl ?_
        refine vx_getR (b := 671) (idx := 151) (kd := 9) (s := 77) (fin := true) (q := 343) (by decide +kernel) (vx_Tk hT (by decide +kernel)) (vx_Tr hT (kd := 9) (by decide +kernel) (by decide +kernel) (by decide +kernel)) ?_
        refine vx_iload (n := 5) (q := 345) (by decide +kernel) rfl ?_
        refine vx_lload_n (n := 3) (q := 346) (by decide +kernel) rfl ?_
        refine vx_aload_n (n := 0) (q := 347) (by decide +kernel) rfl ?_
        refine vx_getR (b := 671) (idx := 151) (kd := 9) (s := 77) (fin := true) (q := 350) (by decide +kernel) (vx_Tk hT (by decide +kernel)) (vx_Tr hT (kd := 9) (by decide +kernel) (by decide +kernel) (by decide +kernel)) ?_
        refine vx_iload (n := 5) (q := 352) (by decide +kernel) rfl ?_
        obtain ⟨k27, H⟩ := H
        refine vx_laload (z := 202) (q := 353) (by decide +kernel) (vx_Tk hT (by decide +kernel)) (vx_Tz hT (by decide +kernel)) (vx_ix k27 (by decide)) ?_
        refine vx_callI (i := .invokestatic 375) (how := 4) (cm := 67) (np := 2) (q := 356) (args := [.long (vx_l v3), .long (vx_l (vx_K h 671 v5.toNat))]) (rest := [.int (vx_i v5), .ref 671]) (by decide +kernel) rfl rfl rfl (vx_w2 (w := 4) (ml := 8) rfl (by decide +kernel)) rfl H (fun r28 h28 hr28 hs28 H => ?_)
        have hT28 := vx_Tsh hT hs28
        replace H := H hT28
        refine vx_if0_le (off := 7) (q := 359) (t := 363) (by decide +kernel) hr28 (fun c29 => ?_) (fun c29 => ?_)
        · replace H := H.1 c29
          refine vx_aload_n (n := 0) (q := 364) (by decide +kernel) rfl ?_
          refine vx_getR (b := 671) (idx := 151) (kd := 9) (s := 77) (fin := true) (q := 367) (by decide +kernel) (vx_Tk hT28 (by decide +kernel)) (vx_Tr hT28 (kd := 9) (by decide +kernel) (by decide +kernel) (by decide +kernel)) ?_
          refine vx_iload (n := 5) (q := 369) (by decide +kernel) rfl ?_
          obtain ⟨k30, H⟩ := H
          refine vx_laload (z := 202) (q := 370) (by decide +kernel) (vx_Tk hT28 (by decide +kernel)) (vx_Tz hT28 (by decide +kernel)) (vx_ix k30 (by decide)) ?_
          obtain ⟨k31, H⟩ := H
          refine vx_lastore (z := 202) (q := 371) (by decide +kernel) (vx_Tk hT28 (by decide +kernel)) (vx_Tz hT28 (by decide +kernel)) (vx_ix k31 (by decide)) (fun h32 e32 => ?_)
          have hT32 := vx_TK hT28 e32
          replace H := H h32 e32 hT32
          refine vx_retV (q := 372) (by decide +kernel) ?_
          exact H
        · replace H := H.2 c29
          refine vx_lload_n (n := 3) (q := 360) (by decide +kernel) rfl ?_
          refine vx_goto (off := 10) (q := 363) (t := 370) (by decide +kernel) ?_
          obtain ⟨k33, H⟩ := H
          refine vx_lastore (z := 202) (q := 371) (by decide +kernel) (vx_Tk hT28 (by decide +kernel)) (vx_Tz hT28 (by decide +kernel)) (vx_ix k33 (by decide)) (fun h34 e34 => ?_)
          have hT34 := vx_TK hT28 e34
          replace H := H h34 e34 hT34
          refine vx_retV (q := 372) (by decide +kernel) ?_
          exact H
    · replace H := H.2 c3
      refine vx_iconst (n := 1) (q := 101) (by decide +kernel) ?_
      refine vx_goto (off := 4) (q := 104) (t := 105) (by decide +kernel) ?_
      refine vx_istore (n := 6) (q := 107) (lv' := [some (.ref 625), some (.int (vx_i v1)), some (.int (vx_i v2)), some (.long (vx_l v3)), none, some (.int (vx_i v5)), some (.int (vx_i 1)), none]) (by decide +kernel) rfl ?_
      refine vx_iload (n := 6) (q := 109) (by decide +kernel) rfl ?_
      refine vx_if0_eq (off := 101) (q := 112) (t := 210) (by decide +kernel) (by decide) (fun c => absurd c (by decide)) (fun _ => ?_)
      refine vx_aload_n (n := 0) (q := 113) (by decide +kernel) rfl ?_
      refine vx_getI (idx := 453) (kd := 9) (s := 75) (fin := false) (q := 116) (by decide +kernel) (vx_Tk hT (by decide +kernel)) ?_
      refine vx_sipush (n := 200) (q := 119) (by decide +kernel) ?_
      refine vx_icmp_le (off := 9) (q := 122) (t := 128) (by decide +kernel) (vx_rI_J h 625 75) (by decide) (fun c35 => ?_) (fun c35 => ?_)
      · replace H := H.1 c35
        refine vx_iconst (n := 0) (q := 129) (by decide +kernel) ?_
        refine vx_istore (n := 7) (q := 131) (lv' := [some (.ref 625), some (.int (vx_i v1)), some (.int (vx_i v2)), some (.long (vx_l v3)), none, some (.int (vx_i v5)), some (.int (vx_i 1)), some (.int (vx_i 0))]) (by decide +kernel) rfl ?_
        exact H
      · replace H := H.2 c35
        refine vx_aload_n (n := 0) (q := 123) (by decide +kernel) rfl ?_
        refine vx_iconst (n := 1) (q := 124) (by decide +kernel) ?_
        refine vx_putZ (idx := 422) (kd := 9) (s := 68) (fin := false) (q := 127) (by decide +kernel) (vx_Tk hT (by decide +kernel)) (Or.inr rfl) (fun h36 e36 => ?_)
        have hT36 := vx_TJ hT e36
        replace H := H h36 e36 hT36
        refine vx_retV (q := 128) (by decide +kernel) ?_
        exact H
  · replace H := H.2 c2
    refine vx_aload_n (n := 0) (q := 76) (by decide +kernel) rfl ?_
    refine vx_iload (n := 5) (q := 78) (by decide +kernel) rfl ?_
    refine vx_iload_n (n := 1) (q := 79) (by decide +kernel) rfl ?_
    refine vx_callI (i := .invokevirtual 456) (how := 3) (cm := 87) (np := 3) (q := 82) (args := [.ref 625, .int (vx_i v5), .int (vx_i v1)]) (rest := []) (by decide +kernel) rfl rfl rfl (vx_w2 (w := 3) (ml := 4) rfl (by decide +kernel)) (vx_rcv (kd := 9) (vx_Tk hT (by decide +kernel)) (by decide +kernel)) H (fun r37 h37 hr37 hs37 H => ?_)
    have hT37 := vx_Tsh hT hs37
    replace H := H hT37
    refine vx_if0_ne (off := 9) (q := 85) (t := 91) (by decide +kernel) hr37 (fun c38 => ?_) (fun c38 => ?_)
    · replace H := H.1 c38
      refine vx_iload (n := 5) (q := 93) (by decide +kernel) rfl ?_
      refine vx_aload_n (n := 0) (q := 94) (by decide +kernel) rfl ?_
      refine vx_getI (idx := 453) (kd := 9) (s := 75) (fin := false) (q := 97) (by decide +kernel) (vx_Tk hT37 (by decide +kernel)) ?_
      refine vx_icmp_ne (off := 7) (q := 100) (t := 104) (by decide +kernel) k1 (vx_rI_J h37 625 75) (fun c39 => ?_) (fun c39 => ?_)
      · replace H := H.1 c39
        refine vx_iconst (n := 0) (q := 105) (by decide +kernel) ?_
        refine vx_istore (n := 6) (q := 107) (lv' := [some (.ref 625), some (.int (vx_i v1)), some (.int (vx_i v2)), some (.long (vx_l v3)), none, some (.int (vx_i v5)), some (.int (vx_i 0)), none]) (by decide +kernel) rfl ?_
        refine vx_iload (n := 6) (q := 109) (by decide +kernel) rfl ?_
        refine vx_if0_eq (off := 101) (q := 112) (t := 210) (by decide +kernel) (by decide) (fun _ => ?_) (fun c => absurd c (by decide))
        refine vx_aload_n (n := 0) (q := 211) (by decide +kernel) rfl ?_
        refine vx_getR (b := 639) (idx := 50) (kd := 9) (s := 20) (fin := true) (q := 214) (by decide +kernel) (vx_Tk hT37 (by decide +kernel)) (vx_Tr hT37 (kd := 9) (by decide +kernel) (by decide +kernel) (by decide +kernel)) ?_
        refine vx_aload_n (n := 0) (q := 215) (by decide +kernel) rfl ?_
        refine vx_getI (idx := 223) (kd := 9) (s := 42) (fin := false) (q := 218) (by decide +kernel) (vx_Tk hT37 (by decide +kernel)) ?_
        obtain ⟨k40, H⟩ := H
        refine vx_iaload (z := 61) (q := 219) (by decide +kernel) (vx_Tk hT37 (by decide +kernel)) (vx_Tz hT37 (by decide +kernel)) (vx_ix k40 (by decide)) ?_
        refine vx_tsw (dd := 120) (lo := 2) (hi := 4) (offs := #[25, 46, 85]) (tl := [(2, 244), (3, 265), (4, 304)]) (td := 339) (q := 244) (by decide +kernel) (vx_rI_J h37 639 (vx_J h37 625 42).toNat) ⟨fun c41 => ?_, fun c41 => ?_, fun c41 => ?_, trivial⟩ (fun c41 => ?_)
        · replace H := H.1 c41
          refine vx_aload_n (n := 0) (q := 245) (by decide +kernel) rfl ?_
          refine vx_getR (b := 671) (idx := 151) (kd := 9) (s := 77) (fin := true) (q := 248) (by decide +kernel) (vx_Tk hT37 (by decide +kernel)) (vx_Tr hT37 (kd := 9) (by decide +kernel) (by decide +kernel) (by decide +kernel)) ?_
          refine vx_iload (n := 5) (q := 250) (by decide +kernel) rfl ?_
          refine vx_aload_n (n := 0) (q := 251) (by decide +kernel) rfl ?_
          refine vx_getR (b := 671) (idx := 151) (kd := 9) (s := 77) (fin := true) (q := 254) (by decide +kernel) (vx_Tk hT37 (by decide +kernel)) (vx_Tr hT37 (kd := 9) (by decide +kernel) (by decide +kernel) (by decide +kernel)) ?_
          refine vx_iload (n := 5) (q := 256) (by decide +kernel) rfl ?_
          obtain ⟨k42, H⟩ := H
          refine vx_laload (z := 202) (q := 257) (by decide +kernel) (vx_Tk hT37 (by decide +kernel)) (vx_Tz hT37 (by decide +kernel)) (vx_ix k42 (by decide)) ?_
          refine vx_l2i (q := 258) (by decide +kernel) ?_
          refine vx_iconst (n := 1) (q := 259) (by decide +kernel) ?_
          refine vx_iadd (q := 260) (by decide +kernel) ?_
          obtain ⟨k43, H⟩ := H
          refine vx_i2l (q := 261) (by decide +kernel) k43 ?_
          obtain ⟨k44, H⟩ := H
          refine vx_lastore (z := 202) (q := 262) (by decide +kernel) (vx_Tk hT37 (by decide +kernel)) (vx_Tz hT37 (by decide +kernel)) (vx_ix k44 (by decide)) (fun h45 e45 => ?_)
          have hT45 := vx_TK hT37 e45
          replace H := H h45 e45 hT45
          refine vx_goto (off := 109) (q := 265) (t := 371) (by decide +kernel) ?_
          refine vx_retV (q := 372) (by decide +kernel) ?_
          exact H
        · replace H := H.2.1 c41
          refine vx_aload_n (n := 0) (q := 266) (by decide +kernel) rfl ?_
          refine vx_getR (b := 671) (idx := 151) (kd := 9) (s := 77) (fin := true) (q := 269) (by decide +kernel) (vx_Tk hT37 (by decide +kernel)) (vx_Tr hT37 (kd := 9) (by decide +kernel) (by decide +kernel) (by decide +kernel)) ?_
          refine vx_iload (n := 5) (q := 271) (by decide +kernel) rfl ?_
          refine vx_lload_n (n := 3) (q := 272) (by decide +kernel) rfl ?_
          refine vx_callI (i := .invokestatic 364) (how := 4) (cm := 66) (np := 1) (q := 275) (args := [.long (vx_l v3)]) (rest := [.int (vx_i v5), .ref 671]) (by decide +kernel) rfl rfl rfl (vx_w2 (w := 2) (ml := 2) rfl (by decide +kernel)) rfl H (fun r46 h46 hr46 hs46 H => ?_)
          have hT46 := vx_Tsh hT37 hs46
          replace H := H hT46
          refine vx_if0_eq (off := 13) (q := 278) (t := 288) (by decide +kernel) hr46 (fun c47 => ?_) (fun c47 => ?_)
          · replace H := H.1 c47
            refine vx_aload_n (n := 0) (q := 289) (by decide +kernel) rfl ?_
            refine vx_getR (b := 671) (idx := 151) (kd := 9) (s := 77) (fin := true) (q := 292) (by decide +kernel) (vx_Tk hT46 (by decide +kernel)) (vx_Tr hT46 (kd := 9) (by decide +kernel) (by decide +kernel) (by decide +kernel)) ?_
            refine vx_iload (n := 5) (q := 294) (by decide +kernel) rfl ?_
            obtain ⟨k48, H⟩ := H
            refine vx_laload (z := 202) (q := 295) (by decide +kernel) (vx_Tk hT46 (by decide +kernel)) (vx_Tz hT46 (by decide +kernel)) (vx_ix k48 (by decide)) ?_
            refine vx_l2i (q := 296) (by decide +kernel) ?_
            refine vx_lload_n (n := 3) (q := 297) (by decide +kernel) rfl ?_
            refine vx_l2i (q := 298) (by decide +kernel) ?_
            refine vx_iadd (q := 299) (by decide +kernel) ?_
            obtain ⟨k49, H⟩ := H
            refine vx_i2l (q := 300) (by decide +kernel) k49 ?_
            obtain ⟨k50, H⟩ := H
            refine vx_lastore (z := 202) (q := 301) (by decide +kernel) (vx_Tk hT46 (by decide +kernel)) (vx_Tz hT46 (by decide +kernel)) (vx_ix k50 (by decide)) (fun h51 e51 => ?_)
            have hT51 := vx_TK hT46 e51
            replace H := H h51 e51 hT51
            refine vx_goto (off := 70) (q := 304) (t := 371) (by decide +kernel) ?_
            refine vx_retV (q := 372) (by decide +kernel) ?_
            exact H
          · replace H := H.2 c47
            refine vx_aload_n (n := 0) (q := 279) (by decide +kernel) rfl ?_
            refine vx_getR (b := 671) (idx := 151) (kd := 9) (s := 77) (fin := true) (q := 282) (by decide +kernel) (vx_Tk hT46 (by decide +kernel)) (vx_Tr hT46 (kd := 9) (by decide +kernel) (by decide +kernel) (by decide +kernel)) ?_
            refine vx_iload (n := 5) (q := 284) (by decide +kernel) rfl ?_
            obtain ⟨k52, H⟩ := H
            refine vx_laload (z := 202) (q := 285) (by decide +kernel) (vx_Tk hT46 (by decide +kernel)) (vx_Tz hT46 (by decide +kernel)) (vx_ix k52 (by decide)) ?_
            refine vx_goto (off := 15) (q := 288) (t := 300) (by decide +kernel) ?_
            obtain ⟨k53, H⟩ := H
            refine vx_lastore (z := 202) (q := 301) (by decide +kernel) (vx_Tk hT46 (by decide +kernel)) (vx_Tz hT46 (by decide +kernel)) (vx_ix k53 (by decide)) (fun h54 e54 => ?_)
            have hT54 := vx_TK hT46 e54
            replace H := H h54 e54 hT54
            refine vx_goto (off := 70) (q := 304) (t := 371) (by decide +kernel) ?_
            refine vx_retV (q := 372) (by decide +kernel) ?_
            exact H
        · replace H := H.2.2.1 c41
          refine vx_aload_n (n := 0) (q := 305) (by decide +kernel) rfl ?_
          refine vx_getR (b := 671) (idx := 151) (kd := 9) (s := 77) (fin := true) (q := 308) (by decide +kernel) (vx_Tk hT37 (by decide +kernel)) (vx_Tr hT37 (kd := 9) (by decide +kernel) (by decide +kernel) (by decide +kernel)) ?_
          refine vx_iload (n := 5) (q := 310) (by decide +kernel) rfl ?_
          refine vx_lload_n (n := 3) (q := 311) (by decide +kernel) rfl ?_
          refine vx_aload_n (n := 0) (q := 312) (by decide +kernel) rfl ?_
          refine vx_getR (b := 671) (idx := 151) (kd := 9) (s := 77) (fin := true) (q := 315) (by decide +kernel) (vx_Tk hT37 (by decide +kernel)) (vx_Tr hT37 (kd := 9) (by decide +kernel) (by decide +kernel) (by decide +kernel)) ?_
          refine vx_iload (n := 5) (q := 317) (by decide +kernel) rfl ?_
          obtain ⟨k55, H⟩ := H
          refine vx_laload (z := 202) (q := 318) (by decide +kernel) (vx_Tk hT37 (by decide +kernel)) (vx_Tz hT37 (by decide +kernel)) (vx_ix k55 (by decide)) ?_
          refine vx_callI (i := .invokestatic 375) (how := 4) (cm := 67) (np := 2) (q := 321) (args := [.long (vx_l v3), .long (vx_l (vx_K h37 671 v5.toNat))]) (rest := [.int (vx_i v5), .ref 671]) (by decide +kernel) rfl rfl rfl (vx_w2 (w := 4) (ml := 8) rfl (by decide +kernel)) rfl H (fun r56 h56 hr56 hs56 H => ?_)
          have hT56 := vx_Tsh hT37 hs56
          replace H := H hT56
          refine vx_if0_ge (off := 7) (q := 324) (t := 328) (by decide +kernel) hr56 (fun c57 => ?_) (fun c57 => ?_)
          · replace H := H.1 c57
            refine vx_aload_n (n := 0) (q := 329) (by decide +kernel) rfl ?_
            refine vx_getR (b := 671) (idx := 151) (kd := 9) (s := 77) (fin := true) (q := 332) (by decide +kernel) (vx_Tk hT56 (by decide +kernel)) (vx_Tr hT56 (kd := 9) (by decide +kernel) (by decide +kernel) (by decide +kernel)) ?_
            refine vx_iload (n := 5) (q := 334) (by decide +kernel) rfl ?_
            obtain ⟨k58, H⟩ := H
            refine vx_laload (z := 202) (q := 335) (by decide +kernel) (vx_Tk hT56 (by decide +kernel)) (vx_Tz hT56 (by decide +kernel)) (vx_ix k58 (by decide)) ?_
            obtain ⟨k59, H⟩ := H
            refine vx_lastore (z := 202) (q := 336) (by decide +kernel) (vx_Tk hT56 (by decide +kernel)) (vx_Tz hT56 (by decide +kernel)) (vx_ix k59 (by decide)) (fun h60 e60 => ?_)
            have hT60 := vx_TK hT56 e60
            replace H := H h60 e60 hT60
            refine vx_goto (off := 35) (q := 339) (t := 371) (by decide +kernel) ?_
            refine vx_retV (q := 372) (by decide +kernel) ?_
            exact H
          · replace H := H.2 c57
            refine vx_lload_n (n := 3) (q := 325) (by decide +kernel) rfl ?_
            refine vx_goto (off := 10) (q := 328) (t := 335) (by decide +kernel) ?_
            obtain ⟨k61, H⟩ := H
            refine vx_lastore (z := 202) (q := 336) (by decide +kernel) (vx_Tk hT56 (by decide +kernel)) (vx_Tz hT56 (by decide +kernel)) (vx_ix k61 (by decide)) (fun h62 e62 => ?_)
            have hT62 := vx_TK hT56 e62
            replace H := H h62 e62 hT62
            refine vx_goto (off := 35) (q := 339) (t := 371) (by decide +kernel) ?_
            refine vx_retV (q := 372) (by decide +kernel) ?_
            exact H
        · replace H := H.2.2.2 c41
          refine vx_aload_n (n := 0) (q := 340) (by decide +kernel) rfl ?_
          refine vx_getR (b := 671) (idx := 151) (kd := 9) (s := 77) (fin := true) (q := 343) (by decide +kernel) (vx_Tk hT37 (by decide +kernel)) (vx_Tr hT37 (kd := 9) (by decide +kernel) (by decide +kernel) (by decide +kernel)) ?_
          refine vx_iload (n := 5) (q := 345) (by decide +kernel) rfl ?_
          refine vx_lload_n (n := 3) (q := 346) (by decide +kernel) rfl ?_
          refine vx_aload_n (n := 0) (q := 347) (by decide +kernel) rfl ?_
          refine vx_getR (b := 671) (idx := 151) (kd := 9) (s := 77) (fin := true) (q := 350) (by decide +kernel) (vx_Tk hT37 (by decide +kernel)) (vx_Tr hT37 (kd := 9) (by decide +kernel) (by decide +kernel) (by decide +kernel)) ?_
          refine vx_iload (n := 5) (q := 352) (by decide +kernel) rfl ?_
          obtain ⟨k63, H⟩ := H
          refine vx_laload (z := 202) (q := 353) (by decide +kernel) (vx_Tk hT37 (by decide +kernel)) (vx_Tz hT37 (by decide +kernel)) (vx_ix k63 (by decide)) ?_
          refine vx_callI (i := .invokestatic 375) (how := 4) (cm := 67) (np := 2) (q := 356) (args := [.long (vx_l v3), .long (vx_l (vx_K h37 671 v5.toNat))]) (rest := [.int (vx_i v5), .ref 671]) (by decide +kernel) rfl rfl rfl (vx_w2 (w := 4) (ml := 8) rfl (by decide +kernel)) rfl H (fun r64 h64 hr64 hs64 H => ?_)
          have hT64 := vx_Tsh hT37 hs64
          replace H := H hT64
          refine vx_if0_le (off := 7) (q := 359) (t := 363) (by decide +kernel) hr64 (fun c65 => ?_) (fun c65 => ?_)
          · replace H := H.1 c65
            refine vx_aload_n (n := 0) (q := 364) (by decide +kernel) rfl ?_
            refine vx_getR (b := 671) (idx := 151) (kd := 9) (s := 77) (fin := true) (q := 367) (by decide +kernel) (vx_Tk hT64 (by decide +kernel)) (vx_Tr hT64 (kd := 9) (by decide +kernel) (by decide +kernel) (by decide +kernel)) ?_
            refine vx_iload (n := 5) (q := 369) (by decide +kernel) rfl ?_
            obtain ⟨k66, H⟩ := H
            refine vx_laload (z := 202) (q := 370) (by decide +kernel) (vx_Tk hT64 (by decide +kernel)) (vx_Tz hT64 (by decide +kernel)) (vx_ix k66 (by decide)) ?_
            obtain ⟨k67, H⟩ := H
            refine vx_lastore (z := 202) (q := 371) (by decide +kernel) (vx_Tk hT64 (by decide +kernel)) (vx_Tz hT64 (by decide +kernel)) (vx_ix k67 (by decide)) (fun h68 e68 => ?_)
            have hT68 := vx_TK hT64 e68
            replace H := H h68 e68 hT68
            refine vx_retV (q := 372) (by decide +kernel) ?_
            exact H
          · replace H := H.2 c65
            refine vx_lload_n (n := 3) (q := 360) (by decide +kernel) rfl ?_
            refine vx_goto (off := 10) (q := 363) (t := 370) (by decide +kernel) ?_
            obtain ⟨k69, H⟩ := H
            refine vx_lastore (z := 202) (q := 371) (by decide +kernel) (vx_Tk hT64 (by decide +kernel)) (vx_Tz hT64 (by decide +kernel)) (vx_ix k69 (by decide)) (fun h70 e70 => ?_)
            have hT70 := vx_TK hT64 e70
            replace H := H h70 e70 hT70
            refine vx_retV (q := 372) (by decide +kernel) ?_
            exact H
      · replace H := H.2 c39
        refine vx_iconst (n := 1) (q := 101) (by decide +kernel) ?_
        refine vx_goto (off := 4) (q := 104) (t := 105) (by decide +kernel) ?_
        refine vx_istore (n := 6) (q := 107) (lv' := [some (.ref 625), some (.int (vx_i v1)), some (.int (vx_i v2)), some (.long (vx_l v3)), none, some (.int (vx_i v5)), some (.int (vx_i 1)), none]) (by decide +kernel) rfl ?_
        refine vx_iload (n := 6) (q := 109) (by decide +kernel) rfl ?_
        refine vx_if0_eq (off := 101) (q := 112) (t := 210) (by decide +kernel) (by decide) (fun c => absurd c (by decide)) (fun _ => ?_)
        refine vx_aload_n (n := 0) (q := 113) (by decide +kernel) rfl ?_
        refine vx_getI (idx := 453) (kd := 9) (s := 75) (fin := false) (q := 116) (by decide +kernel) (vx_Tk hT37 (by decide +kernel)) ?_
        refine vx_sipush (n := 200) (q := 119) (by decide +kernel) ?_
        refine vx_icmp_le (off := 9) (q := 122) (t := 128) (by decide +kernel) (vx_rI_J h37 625 75) (by decide) (fun c71 => ?_) (fun c71 => ?_)
        · replace H := H.1 c71
          refine vx_iconst (n := 0) (q := 129) (by decide +kernel) ?_
          refine vx_istore (n := 7) (q := 131) (lv' := [some (.ref 625), some (.int (vx_i v1)), some (.int (vx_i v2)), some (.long (vx_l v3)), none, some (.int (vx_i v5)), some (.int (vx_i 1)), some (.int (vx_i 0))]) (by decide +kernel) rfl ?_
          exact H
        · replace H := H.2 c71
          refine vx_aload_n (n := 0) (q := 123) (by decide +kernel) rfl ?_
          refine vx_iconst (n := 1) (q := 124) (by decide +kernel) ?_
          refine vx_putZ (idx := 422) (kd := 9) (s := 68) (fin := false) (q := 127) (by decide +kernel) (vx_Tk hT37 (by decide +kernel)) (Or.inr rfl) (fun h72 e72 => ?_)
          have hT72 := vx_TJ hT37 e72
          replace H := H h72 e72 hT72
          refine vx_retV (q := 128) (by decide +kernel) ?_
          exact H
    · replace H := H.2 c38
      refine vx_iinc (n := 5) (m := 1) (x := v5) (q := 88) (lv' := [some (.ref 625), some (.int (vx_i v1)), some (.int (vx_i v2)), some (.long (vx_l v3)), none, some (.int (vx_i (v5 + 1))), none, none]) (by decide +kernel) rfl rfl ?_
      refine vx_goto (off := (-22)) (q := 91) (t := 66) (by decide +kernel) ?_
      exact H
theorem vg_86_131 {d : Nat} {h : ve_H} {P : ve_H → Prop} {v1 : Int} {v2 : Int} {v3 : Int} {v5 : Int} {v6 : Int} {v7 : Int} (hT : vx_T 625 672 h) (H : (vx_rI v7) ∧ (vx_rI v1) ∧ ((v1 ≤ v7 → (∀ h4, h4 = vx_sJ h 625 75 ((vx_J h 625 75) + 1) → vx_T 625 672 h4 → (0 ≤ (vx_J h4 625 42) ∧ (vx_J h4 625 42) < 61) ∧ (((vx_J h4 639 (vx_J h4 625 42).toNat) = 2 → (0 ≤ v5 ∧ v5 < 202) ∧ (∀ h8, h8 = vx_sK h4 671 v5.toNat 0 → vx_T 625 672 h8 → (0 ≤ (vx_J h8 625 42) ∧ (vx_J h8 625 42) < 61) ∧ (((vx_J h8 639 (vx_J h8 625 42).toNat) = 2 → (0 ≤ v5 ∧ v5 < 202) ∧ (vx_rI ((vx_K h8 671 v5.toNat) + 1)) ∧ (0 ≤ v5 ∧ v5 < 202) ∧ (∀ h14, h14 = vx_sK h8 671 v5.toNat ((vx_K h8 671 v5.toNat) + 1) → vx_T 625 672 h14 → P h14)) ∧ ((vx_J h8 639 (vx_J h8 625 42).toNat) = 3 → vx_CI d 66 [.long (vx_l v3)] h8 (fun r15 h15 => vx_T 625 672 h15 → ((r15 = 0 → (0 ≤ v5 ∧ v5 < 202) ∧ (vx_rI ((vx_K h15 671 v5.toNat) + v3)) ∧ (0 ≤ v5 ∧ v5 < 202) ∧ (∀ h20, h20 = vx_sK h15 671 v5.toNat ((vx_K h15 671 v5.toNat) + v3) → vx_T 625 672 h20 → P h20)) ∧ (r15 ≠ 0 → (0 ≤ v5 ∧ v5 < 202) ∧ (0 ≤ v5 ∧ v5 < 202) ∧ (∀ h23, h23 = vx_sK h15 671 v5.toNat (vx_K h15 671 v5.toNat) → vx_T 625 672 h23 → P h23))))) ∧ ((vx_J h8 639 (vx_J h8 625 42).toNat) = 4 → (0 ≤ v5 ∧ v5 < 202) ∧ vx_CI d 67 [.long (vx_l v3), .long (vx_l (vx_K h8 671 v5.toNat))] h8 (fun r25 h25 => vx_T 625 672 h25 → ((0 ≤ r25 → (0 ≤ v5 ∧ v5 < 202) ∧ (0 ≤ v5 ∧ v5 < 202) ∧ (∀ h29, h29 = vx_sK h25 671 v5.toNat (vx_K h25 671 v5.toNat) → vx_T 625 672 h29 → P h29)) ∧ (r25 < 0 → (0 ≤ v5 ∧ v5 < 202) ∧ (∀ h31, h31 = vx_sK h25 671 v5.toNat v3 → vx_T 625 672 h31 → P h31))))) ∧ ((vx_J h8 639 (vx_J h8 625 42).toNat) ≠ 2 ∧ (vx_J h8 639 (vx_J h8 625 42).toNat) ≠ 3 ∧ (vx_J h8 639 (vx_J h8 625 42).toNat) ≠ 4 ∧ True → (0 ≤ v5 ∧ v5 < 202) ∧ vx_CI d 67 [.long (vx_l v3), .long (vx_l (vx_K h8 671 v5.toNat))] h8 (fun r33 h33 => vx_T 625 672 h33 → ((r33 ≤ 0 → (0 ≤ v5 ∧ v5 < 202) ∧ (0 ≤ v5 ∧ v5 < 202) ∧ (∀ h37, h37 = vx_sK h33 671 v5.toNat (vx_K h33 671 v5.toNat) → vx_T 625 672 h37 → P h37)) ∧ (0 < r33 → (0 ≤ v5 ∧ v5 < 202) ∧ (∀ h39, h39 = vx_sK h33 671 v5.toNat v3 → vx_T 625 672 h39 → P h39)))))))) ∧ ((vx_J h4 639 (vx_J h4 625 42).toNat) ≠ 2 → (0 ≤ (vx_J h4 625 42) ∧ (vx_J h4 625 42) < 61) ∧ (((vx_J h4 639 (vx_J h4 625 42).toNat) ≠ 3 → (0 ≤ v5 ∧ v5 < 202) ∧ (∀ h43, h43 = vx_sK h4 671 v5.toNat v3 → vx_T 625 672 h43 → (0 ≤ (vx_J h43 625 42) ∧ (vx_J h43 625 42) < 61) ∧ (((vx_J h43 639 (vx_J h43 625 42).toNat) = 2 → (0 ≤ v5 ∧ v5 < 202) ∧ (vx_rI ((vx_K h43 671 v5.toNat) + 1)) ∧ (0 ≤ v5 ∧ v5 < 202) ∧ (∀ h49, h49 = vx_sK h43 671 v5.toNat ((vx_K h43 671 v5.toNat) + 1) → vx_T 625 672 h49 → P h49)) ∧ ((vx_J h43 639 (vx_J h43 625 42).toNat) = 3 → vx_CI d 66 [.long (vx_l v3)] h43 (fun r50 h50 => vx_T 625 672 h50 → ((r50 = 0 → (0 ≤ v5 ∧ v5 < 202) ∧ (vx_rI ((vx_K h50 671 v5.toNat) + v3)) ∧ (0 ≤ v5 ∧ v5 < 202) ∧ (∀ h55, h55 = vx_sK h50 671 v5.toNat ((vx_K h50 671 v5.toNat) + v3) → vx_T 625 672 h55 → P h55)) ∧ (r50 ≠ 0 → (0 ≤ v5 ∧ v5 < 202) ∧ (0 ≤ v5 ∧ v5 < 202) ∧ (∀ h58, h58 = vx_sK h50 671 v5.toNat (vx_K h50 671 v5.toNat) → vx_T 625 672 h58 → P h58))))) ∧ ((vx_J h43 639 (vx_J h43 625 42).toNat) = 4 → (0 ≤ v5 ∧ v5 < 202) ∧ vx_CI d 67 [.long (vx_l v3), .long (vx_l (vx_K h43 671 v5.toNat))] h43 (fun r60 h60 => vx_T 625 672 h60 → ((0 ≤ r60 → (0 ≤ v5 ∧ v5 < 202) ∧ (0 ≤ v5 ∧ v5 < 202) ∧ (∀ h64, h64 = vx_sK h60 671 v5.toNat (vx_K h60 671 v5.toNat) → vx_T 625 672 h64 → P h64)) ∧ (r60 < 0 → (0 ≤ v5 ∧ v5 < 202) ∧ (∀ h66, h66 = vx_sK h60 671 v5.toNat v3 → vx_T 625 672 h66 → P h66))))) ∧ ((vx_J h43 639 (vx_J h43 625 42).toNat) ≠ 2 ∧ (vx_J h43 639 (vx_J h43 625 42).toNat) ≠ 3 ∧ (vx_J h43 639 (vx_J h43 625 42).toNat) ≠ 4 ∧ True → (0 ≤ v5 ∧ v5 < 202) ∧ vx_CI d 67 [.long (vx_l v3), .long (vx_l (vx_K h43 671 v5.toNat))] h43 (fun r68 h68 => vx_T 625 672 h68 → ((r68 ≤ 0 → (0 ≤ v5 ∧ v5 < 202) ∧ (0 ≤ v5 ∧ v5 < 202) ∧ (∀ h72, h72 = vx_sK h68 671 v5.toNat (vx_K h68 671 v5.toNat) → vx_T 625 672 h72 → P h72)) ∧ (0 < r68 → (0 ≤ v5 ∧ v5 < 202) ∧ (∀ h74, h74 = vx_sK h68 671 v5.toNat v3 → vx_T 625 672 h74 → P h74)))))))) ∧ ((vx_J h4 639 (vx_J h4 625 42).toNat) = 3 → (0 ≤ v5 ∧ v5 < 202) ∧ (∀ h76, h76 = vx_sK h4 671 v5.toNat 0 → vx_T 625 672 h76 → (0 ≤ (vx_J h76 625 42) ∧ (vx_J h76 625 42) < 61) ∧ (((vx_J h76 639 (vx_J h76 625 42).toNat) = 2 → (0 ≤ v5 ∧ v5 < 202) ∧ (vx_rI ((vx_K h76 671 v5.toNat) + 1)) ∧ (0 ≤ v5 ∧ v5 < 202) ∧ (∀ h82, h82 = vx_sK h76 671 v5.toNat ((vx_K h76 671 v5.toNat) + 1) → vx_T 625 672 h82 → P h82)) ∧ ((vx_J h76 639 (vx_J h76 625 42).toNat) = 3 → vx_CI d 66 [.long (vx_l v3)] h76 (fun r83 h83 => vx_T 625 672 h83 → ((r83 = 0 → (0 ≤ v5 ∧ v5 < 202) ∧ (vx_rI ((vx_K h83 671 v5.toNat) + v3)) ∧ (0 ≤ v5 ∧ v5 < 202) ∧ (∀ h88, h88 = vx_sK h83 671 v5.toNat ((vx_K h83 671 v5.toNat) + v3) → vx_T 625 672 h88 → P h88)) ∧ (r83 ≠ 0 → (0 ≤ v5 ∧ v5 < 202) ∧ (0 ≤ v5 ∧ v5 < 202) ∧ (∀ h91, h91 = vx_sK h83 671 v5.toNat (vx_K h83 671 v5.toNat) → vx_T 625 672 h91 → P h91))))) ∧ ((vx_J h76 639 (vx_J h76 625 42).toNat) = 4 → (0 ≤ v5 ∧ v5 < 202) ∧ vx_CI d 67 [.long (vx_l v3), .long (vx_l (vx_K h76 671 v5.toNat))] h76 (fun r93 h93 => vx_T 625 672 h93 → ((0 ≤ r93 → (0 ≤ v5 ∧ v5 < 202) ∧ (0 ≤ v5 ∧ v5 < 202) ∧ (∀ h97, h97 = vx_sK h93 671 v5.toNat (vx_K h93 671 v5.toNat) → vx_T 625 672 h97 → P h97)) ∧ (r93 < 0 → (0 ≤ v5 ∧ v5 < 202) ∧ (∀ h99, h99 = vx_sK h93 671 v5.toNat v3 → vx_T 625 672 h99 → P h99))))) ∧ ((vx_J h76 639 (vx_J h76 625 42).toNat) ≠ 2 ∧ (vx_J h76 639 (vx_J h76 625 42).toNat) ≠ 3 ∧ (vx_J h76 639 (vx_J h76 625 42).toNat) ≠ 4 ∧ True → (0 ≤ v5 ∧ v5 < 202) ∧ vx_CI d 67 [.long (vx_l v3), .long (vx_l (vx_K h76 671 v5.toNat))] h76 (fun r101 h101 => vx_T 625 672 h101 → ((r101 ≤ 0 → (0 ≤ v5 ∧ v5 < 202) ∧ (0 ≤ v5 ∧ v5 < 202) ∧ (∀ h105, h105 = vx_sK h101 671 v5.toNat (vx_K h101 671 v5.toNat) → vx_T 625 672 h105 → P h105)) ∧ (0 < r101 → (0 ≤ v5 ∧ v5 < 202) ∧ (∀ h107, h107 = vx_sK h101 671 v5.toNat v3 → vx_T 625 672 h107 → P h107))))))))))))) ∧ (v7 < v1 → (0 ≤ v7 ∧ v7 < 4) ∧ (0 ≤ ((4 * v5) + v7) ∧ ((4 * v5) + v7) < 810) ∧ (∀ h110, h110 = vx_sK h 670 ((4 * v5) + v7).toNat (vx_K h 669 v7.toNat) → vx_T 625 672 h110 → vx_W (d + 1) 86 131 [some (.ref 625), some (.int (vx_i v1)), some (.int (vx_i v2)), some (.long (vx_l v3)), none, some (.int (vx_i v5)), some (.int (vx_i v6)), some (.int (vx_i (v7 + 1)))] [] h110 (vx_RV P))))) : vx_W (d + 1) 86 131 [some (.ref 625), some (.int (vx_i v1)), some (.int (vx_i v2)), some (.long (vx_l v3)), none, some (.int (vx_i v5)), some (.int (vx_i v6)), some (.int (vx_i v7))] [] h (vx_RV P) := by
  refine vx_iload (n := 7) (q := 133) (by decide +kernel) rfl ?_
  refine vx_iload_n (n := 1) (q := 134) (by decide +kernel) rfl ?_
  obtain ⟨k1, H⟩ := H
  obtain ⟨k2, H⟩ := H
  refine vx_icmp_ge (off := 28) (q := 137) (t := 162) (by decide +kernel) k1 k2 (fun c3 => ?_) (fun c3 => ?_)
  · replace H := H.1 c3
    refine vx_aload_n (n := 0) (q := 163) (by decide +kernel) rfl ?_
    refine vx_dupR (q := 164) (by decide +kernel) ?_
    refine vx_getI (idx := 453) (kd := 9) (s := 75) (fin := false) (q := 167) (by decide +kernel) (vx_Tk hT (by decide +kernel)) ?_
    refine vx_iconst (n := 1) (q := 168) (by decide +kernel) ?_
    refine vx_iadd (q := 169) (by decide +kernel) ?_
    refine vx_putI (idx := 453) (kd := 9) (s := 75) (fin := false) (q := 172) (by decide +kernel) (vx_Tk hT (by decide +kernel)) (fun h4 e4 => ?_)
    have hT4 := vx_TJ hT e4
    replace H := H h4 e4 hT4
    refine vx_aload_n (n := 0) (q := 173) (by decide +kernel) rfl ?_
    refine vx_getR (b := 671) (idx := 151) (kd := 9) (s := 77) (fin := true) (q := 176) (by decide +kernel) (vx_Tk hT4 (by decide +kernel)) (vx_Tr hT4 (kd := 9) (by decide +kernel) (by decide +kernel) (by decide +kernel)) ?_
    refine vx_iload (n := 5) (q := 178) (by decide +kernel) rfl ?_
    refine vx_aload_n (n := 0) (q := 179) (by decide +kernel) rfl ?_
    refine vx_getR (b := 639) (idx := 50) (kd := 9) (s := 20) (fin := true) (q := 182) (by decide +kernel) (vx_Tk hT4 (by decide +kernel)) (vx_Tr hT4 (kd := 9) (by decide +kernel) (by decide +kernel) (by decide +kernel)) ?_
    refine vx_aload_n (n := 0) (q := 183) (by decide +kernel) rfl ?_
    refine vx_getI (idx := 223) (kd := 9) (s := 42) (fin := false) (q := 186) (by decide +kernel) (vx_Tk hT4 (by decide +kernel)) ?_
    obtain ⟨k5, H⟩ := H
    refine vx_iaload (z := 61) (q := 187) (by decide +kernel) (vx_Tk hT4 (by decide +kernel)) (vx_Tz hT4 (by decide +kernel)) (vx_ix k5 (by decide)) ?_
    refine vx_iconst (n := 2) (q := 188) (by decide +kernel) ?_
    refine vx_icmp_eq (off := 16) (q := 191) (t := 204) (by decide +kernel) (vx_rI_J h4 639 (vx_J h4 625 42).toNat) (by decide) (fun c6 => ?_) (fun c6 => ?_)
    · replace H := H.1 c6
      refine vx_lconst (n := 0) (m := 0) (q := 205) (by decide +kernel) ?_
      refine vx_goto (off := 4) (q := 208) (t := 209) (by decide +kernel) ?_
      obtain ⟨k7, H⟩ := H
      refine vx_lastore (z := 202) (q := 210) (by decide +kernel) (vx_Tk hT4 (by decide +kernel)) (vx_Tz hT4 (by decide +kernel)) (vx_ix k7 (by decide)) (fun h8 e8 => ?_)
      have hT8 := vx_TK hT4 e8
      replace H := H h8 e8 hT8
      refine vx_aload_n (n := 0) (q := 211) (by decide +kernel) rfl ?_
      refine vx_getR (b := 639) (idx := 50) (kd := 9) (s := 20) (fin := true) (q := 214) (by decide +kernel) (vx_Tk hT8 (by decide +kernel)) (vx_Tr hT8 (kd := 9) (by decide +kernel) (by decide +kernel) (by decide +kernel)) ?_
      refine vx_aload_n (n := 0) (q := 215) (by decide +kernel) rfl ?_
      refine vx_getI (idx := 223) (kd := 9) (s := 42) (fin := false) (q := 218) (by decide +kernel) (vx_Tk hT8 (by decide +kernel)) ?_
      obtain ⟨k9, H⟩ := H
      refine vx_iaload (z := 61) (q := 219) (by decide +kernel) (vx_Tk hT8 (by decide +kernel)) (vx_Tz hT8 (by decide +kernel)) (vx_ix k9 (by decide)) ?_
      refine vx_tsw (dd := 120) (lo := 2) (hi := 4) (offs := #[25, 46, 85]) (tl := [(2, 244), (3, 265), (4, 304)]) (td := 339) (q := 244) (by decide +kernel) (vx_rI_J h8 639 (vx_J h8 625 42).toNat) ⟨fun c10 => ?_, fun c10 => ?_, fun c10 => ?_, trivial⟩ (fun c10 => ?_)
      · replace H := H.1 c10
        refine vx_aload_n (n := 0) (q := 245) (by decide +kernel) rfl ?_
        refine vx_getR (b := 671) (idx := 151) (kd := 9) (s := 77) (fin := true) (q := 248) (by decide +kernel) (vx_Tk hT8 (by decide +kernel)) (vx_Tr hT8 (kd := 9) (by decide +kernel) (by decide +kernel) (by decide +kernel)) ?_
        refine vx_iload (n := 5) (q := 250) (by decide +kernel) rfl ?_
        refine vx_aload_n (n := 0) (q := 251) (by decide +kernel) rfl ?_
        refine vx_getR (b := 671) (idx := 151) (kd := 9) (s := 77) (fin := true) (q := 254) (by decide +kernel) (vx_Tk hT8 (by decide +kernel)) (vx_Tr hT8 (kd := 9) (by decide +kernel) (by decide +kernel) (by decide +kernel)) ?_
        refine vx_iload (n := 5) (q := 256) (by decide +kernel) rfl ?_
        obtain ⟨k11, H⟩ := H
        refine vx_laload (z := 202) (q := 257) (by decide +kernel) (vx_Tk hT8 (by decide +kernel)) (vx_Tz hT8 (by decide +kernel)) (vx_ix k11 (by decide)) ?_
        refine vx_l2i (q := 258) (by decide +kernel) ?_
        refine vx_iconst (n := 1) (q := 259) (by decide +kernel) ?_
        refine vx_iadd (q := 260) (by decide +kernel) ?_
        obtain ⟨k12, H⟩ := H
        refine vx_i2l (q := 261) (by decide +kernel) k12 ?_
        obtain ⟨k13, H⟩ := H
        refine vx_lastore (z := 202) (q := 262) (by decide +kernel) (vx_Tk hT8 (by decide +kernel)) (vx_Tz hT8 (by decide +kernel)) (vx_ix k13 (by decide)) (fun h14 e14 => ?_)
        have hT14 := vx_TK hT8 e14
        replace H := H h14 e14 hT14
        refine vx_goto (off := 109) (q := 265) (t := 371) (by decide +kernel) ?_
        refine vx_retV (q := 372) (by decide +kernel) ?_
        exact H
      · replace H := H.2.1 c10
        refine vx_aload_n (n := 0) (q := 266) (by decide +kernel) rfl ?_
        refine vx_getR (b := 671) (idx := 151) (kd := 9) (s := 77) (fin := true) (q := 269) (by decide +kernel) (vx_Tk hT8 (by decide +kernel)) (vx_Tr hT8 (kd := 9) (by decide +kernel) (by decide +kernel) (by decide +kernel)) ?_
        refine vx_iload (n := 5) (q := 271) (by decide +kernel) rfl ?_
        refine vx_lload_n (n := 3) (q := 272) (by decide +kernel) rfl ?_
        refine vx_callI (i := .invokestatic 364) (how := 4) (cm := 66) (np := 1) (q := 275) (args := [.long (vx_l v3)]) (rest := [.int (vx_i v5), .ref 671]) (by decide +kernel) rfl rfl rfl (vx_w2 (w := 2) (ml := 2) rfl (by decide +kernel)) rfl H (fun r15 h15 hr15 hs15 H => ?_)
        have hT15 := vx_Tsh hT8 hs15
        replace H := H hT15
        refine vx_if0_eq (off := 13) (q := 278) (t := 288) (by decide +kernel) hr15 (fun c16 => ?_) (fun c16 => ?_)
        · replace H := H.1 c16
          refine vx_aload_n (n := 0) (q := 289) (by decide +kernel) rfl ?_
          refine vx_getR (b := 671) (idx := 151) (kd := 9) (s := 77) (fin := true) (q := 292) (by decide +kernel) (vx_Tk hT15 (by decide +kernel)) (vx_Tr hT15 (kd := 9) (by decide +kernel) (by decide +kernel) (by decide +kernel)) ?_
          refine vx_iload (n := 5) (q := 294) (by decide +kernel) rfl ?_
          obtain ⟨k17, H⟩ := H
          refine vx_laload (z := 202) (q := 295) (by decide +kernel) (vx_Tk hT15 (by decide +kernel)) (vx_Tz hT15 (by decide +kernel)) (vx_ix k17 (by decide)) ?_
          refine vx_l2i (q := 296) (by decide +kernel) ?_
          refine vx_lload_n (n := 3) (q := 297) (by decide +kernel) rfl ?_
          refine vx_l2i (q := 298) (by decide +kernel) ?_
          refine vx_iadd (q := 299) (by decide +kernel) ?_
          obtain ⟨k18, H⟩ := H
          refine vx_i2l (q := 300) (by decide +kernel) k18 ?_
          obtain ⟨k19, H⟩ := H
          refine vx_lastore (z := 202) (q := 301) (by decide +kernel) (vx_Tk hT15 (by decide +kernel)) (vx_Tz hT15 (by decide +kernel)) (vx_ix k19 (by decide)) (fun h20 e20 => ?_)
          have hT20 := vx_TK hT15 e20
          replace H := H h20 e20 hT20
          refine vx_goto (off := 70) (q := 304) (t := 371) (by decide +kernel) ?_
          refine vx_retV (q := 372) (by decide +kernel) ?_
          exact H
        · replace H := H.2 c16
          refine vx_aload_n (n := 0) (q := 279) (by decide +kernel) rfl ?_
          refine vx_getR (b := 671) (idx := 151) (kd := 9) (s := 77) (fin := true) (q := 282) (by decide +kernel) (vx_Tk hT15 (by decide +kernel)) (vx_Tr hT15 (kd := 9) (by decide +kernel) (by decide +kernel) (by decide +kernel)) ?_
          refine vx_iload (n := 5) (q := 284) (by decide +kernel) rfl ?_
          obtain ⟨k21, H⟩ := H
          refine vx_laload (z := 202) (q := 285) (by decide +kernel) (vx_Tk hT15 (by decide +kernel)) (vx_Tz hT15 (by decide +kernel)) (vx_ix k21 (by decide)) ?_
          refine vx_goto (off := 15) (q := 288) (t := 300) (by decide +kernel) ?_
          obtain ⟨k22, H⟩ := H
          refine vx_lastore (z := 202) (q := 301) (by decide +kernel) (vx_Tk hT15 (by decide +kernel)) (vx_Tz hT15 (by decide +kernel)) (vx_ix k22 (by decide)) (fun h23 e23 => ?_)
          have hT23 := vx_TK hT15 e23
          replace H := H h23 e23 hT23
          refine vx_goto (off := 70) (q := 304) (t := 371) (by decide +kernel) ?_
          refine vx_retV (q := 372) (by decide +kernel) ?_
          exact H
      · replace H := H.2.2.1 c10
        refine vx_aload_n (n := 0) (q := 305) (by decide +kernel) rfl ?_
        refine vx_getR (b := 671) (idx := 151) (kd := 9) (s := 77) (fin := true) (q := 308) (by decide +kernel) (vx_Tk hT8 (by decide +kernel)) (vx_Tr hT8 (kd := 9) (by decide +kernel) (by decide +kernel) (by decide +kernel)) ?_
        refine vx_iload (n := 5) (q := 310) (by decide +kernel) rfl ?_
        refine vx_lload_n (n := 3) (q := 311) (by decide +kernel) rfl ?_
        refine vx_aload_n (n := 0) (q := 312) (by decide +kernel) rfl ?_
        refine vx_getR (b := 671) (idx := 151) (kd := 9) (s := 77) (fin := true) (q := 315) (by decide +kernel) (vx_Tk hT8 (by decide +kernel)) (vx_Tr hT8 (kd := 9) (by decide +kernel) (by decide +kernel) (by decide +kernel)) ?_
        refine vx_iload (n := 5) (q := 317) (by decide +kernel) rfl ?_
        obtain ⟨k24, H⟩ := H
        refine vx_laload (z := 202) (q := 318) (by decide +kernel) (vx_Tk hT8 (by decide +kernel)) (vx_Tz hT8 (by decide +kernel)) (vx_ix k24 (by decide)) ?_
        refine vx_callI (i := .invokestatic 375) (how := 4) (cm := 67) (np := 2) (q := 321) (args := [.long (vx_l v3), .long (vx_l (vx_K h8 671 v5.toNat))]) (rest := [.int (vx_i v5), .ref 671]) (by decide +kernel) rfl rfl rfl (vx_w2 (w := 4) (ml := 8) rfl (by decide +kernel)) rfl H (fun r25 h25 hr25 hs25 H => ?_)
        have hT25 := vx_Tsh hT8 hs25
        replace H := H hT25
        refine vx_if0_ge (off := 7) (q := 324) (t := 328) (by decide +kernel) hr25 (fun c26 => ?_) (fun c26 => ?_)
        · replace H := H.1 c26
          refine vx_aload_n (n := 0) (q := 329) (by decide +kernel) rfl ?_
          refine vx_getR (b := 671) (idx := 151) (kd := 9) (s := 77) (fin := true) (q := 332) (by decide +kernel) (vx_Tk hT25 (by decide +kernel)) (vx_Tr hT25 (kd := 9) (by decide +kernel) (by decide +kernel) (by decide +kernel)) ?_
          refine vx_iload (n := 5) (q := 334) (by decide +kernel) rfl ?_
          obtain ⟨k27, H⟩ := H
          refine vx_laload (z := 202) (q := 335) (by decide +kernel) (vx_Tk hT25 (by decide +kernel)) (vx_Tz hT25 (by decide +kernel)) (vx_ix k27 (by decide)) ?_
          obtain ⟨k28, H⟩ := H
          refine vx_lastore (z := 202) (q := 336) (by decide +kernel) (vx_Tk hT25 (by decide +kernel)) (vx_Tz hT25 (by decide +kernel)) (vx_ix k28 (by decide)) (fun h29 e29 => ?_)
          have hT29 := vx_TK hT25 e29
          replace H := H h29 e29 hT29
          refine vx_goto (off := 35) (q := 339) (t := 371) (by decide +kernel) ?_
          refine vx_retV (q := 372) (by decide +kernel) ?_
          exact H
        · replace H := H.2 c26
          refine vx_lload_n (n := 3) (q := 325) (by decide +kernel) rfl ?_
          refine vx_goto (off := 10) (q := 328) (t := 335) (by decide +kernel) ?_
          obtain ⟨k30, H⟩ := H
          refine vx_lastore (z := 202) (q := 336) (by decide +kernel) (vx_Tk hT25 (by decide +kernel)) (vx_Tz hT25 (by decide +kernel)) (vx_ix k30 (by decide)) (fun h31 e31 => ?_)
          have hT31 := vx_TK hT25 e31
          replace H := H h31 e31 hT31
          refine vx_goto (off := 35) (q := 339) (t := 371) (by decide +kernel) ?_
          refine vx_retV (q := 372) (by decide +kernel) ?_
          exact H
      · replace H := H.2.2.2 c10
        refine vx_aload_n (n := 0) (q := 340) (by decide +kernel) rfl ?_
        refine vx_getR (b := 671) (idx := 151) (kd := 9) (s := 77) (fin := true) (q := 343) (by decide +kernel) (vx_Tk hT8 (by decide +kernel)) (vx_Tr hT8 (kd := 9) (by decide +kernel) (by decide +kernel) (by decide +kernel)) ?_
        refine vx_iload (n := 5) (q := 345) (by decide +kernel) rfl ?_
        refine vx_lload_n (n := 3) (q := 346) (by decide +kernel) rfl ?_
        refine vx_aload_n (n := 0) (q := 347) (by decide +kernel) rfl ?_
        refine vx_getR (b := 671) (idx := 151) (kd := 9) (s := 77) (fin := true) (q := 350) (by decide +kernel) (vx_Tk hT8 (by decide +kernel)) (vx_Tr hT8 (kd := 9) (by decide +kernel) (by decide +kernel) (by decide +kernel)) ?_
        refine vx_iload (n := 5) (q := 352) (by decide +kernel) rfl ?_
        obtain ⟨k32, H⟩ := H
        refine vx_laload (z := 202) (q := 353) (by decide +kernel) (vx_Tk hT8 (by decide +kernel)) (vx_Tz hT8 (by decide +kernel)) (vx_ix k32 (by decide)) ?_
        refine vx_callI (i := .invokestatic 375) (how := 4) (cm := 67) (np := 2) (q := 356) (args := [.long (vx_l v3), .long (vx_l (vx_K h8 671 v5.toNat))]) (rest := [.int (vx_i v5), .ref 671]) (by decide +kernel) rfl rfl rfl (vx_w2 (w := 4) (ml := 8) rfl (by decide +kernel)) rfl H (fun r33 h33 hr33 hs33 H => ?_)
        have hT33 := vx_Tsh hT8 hs33
        replace H := H hT33
        refine vx_if0_le (off := 7) (q := 359) (t := 363) (by decide +kernel) hr33 (fun c34 => ?_) (fun c34 => ?_)
        · replace H := H.1 c34
          refine vx_aload_n (n := 0) (q := 364) (by decide +kernel) rfl ?_
          refine vx_getR (b := 671) (idx := 151) (kd := 9) (s := 77) (fin := true) (q := 367) (by decide +kernel) (vx_Tk hT33 (by decide +kernel)) (vx_Tr hT33 (kd := 9) (by decide +kernel) (by decide +kernel) (by decide +kernel)) ?_
          refine vx_iload (n := 5) (q := 369) (by decide +kernel) rfl ?_
          obtain ⟨k35, H⟩ := H
          refine vx_laload (z := 202) (q := 370) (by decide +kernel) (vx_Tk hT33 (by decide +kernel)) (vx_Tz hT33 (by decide +kernel)) (vx_ix k35 (by decide)) ?_
          obtain ⟨k36, H⟩ := H
          refine vx_lastore (z := 202) (q := 371) (by decide +kernel) (vx_Tk hT33 (by decide +kernel)) (vx_Tz hT33 (by decide +kernel)) (vx_ix k36 (by decide)) (fun h37 e37 => ?_)
          have hT37 := vx_TK hT33 e37
          replace H := H h37 e37 hT37
          refine vx_retV (q := 372) (by decide +kernel) ?_
          exact H
        · replace H := H.2 c34
          refine vx_lload_n (n := 3) (q := 360) (by decide +kernel) rfl ?_
          refine vx_goto (off := 10) (q := 363) (t := 370) (by decide +kernel) ?_
          obtain ⟨k38, H⟩ := H
          refine vx_lastore (z := 202) (q := 371) (by decide +kernel) (vx_Tk hT33 (by decide +kernel)) (vx_Tz hT33 (by decide +kernel)) (vx_ix k38 (by decide)) (fun h39 e39 => ?_)
          have hT39 := vx_TK hT33 e39
          replace H := H h39 e39 hT39
          refine vx_retV (q := 372) (by decide +kernel) ?_
          exact H
    · replace H := H.2 c6
      refine vx_aload_n (n := 0) (q := 192) (by decide +kernel) rfl ?_
      refine vx_getR (b := 639) (idx := 50) (kd := 9) (s := 20) (fin := true) (q := 195) (by decide +kernel) (vx_Tk hT4 (by decide +kernel)) (vx_Tr hT4 (kd := 9) (by decide +kernel) (by decide +kernel) (by decide +kernel)) ?_
      refine vx_aload_n (n := 0) (q := 196) (by decide +kernel) rfl ?_
      refine vx_getI (idx := 223) (kd := 9) (s := 42) (fin := false) (q := 199) (by decide +kernel) (vx_Tk hT4 (by decide +kernel)) ?_
      obtain ⟨k40, H⟩ := H
      refine vx_iaload (z := 61) (q := 200) (by decide +kernel) (vx_Tk hT4 (by decide +kernel)) (vx_Tz hT4 (by decide +kernel)) (vx_ix k40 (by decide)) ?_
      refine vx_iconst (n := 3) (q := 201) (by decide +kernel) ?_
      refine vx_icmp_ne (off := 7) (q := 204) (t := 208) (by decide +kernel) (vx_rI_J h4 639 (vx_J h4 625 42).toNat) (by decide) (fun c41 => ?_) (fun c41 => ?_)
      · replace H := H.1 c41
        refine vx_lload_n (n := 3) (q := 209) (by decide +kernel) rfl ?_
        obtain ⟨k42, H⟩ := H
        refine vx_lastore (z := 202) (q := 210) (by decide +kernel) (vx_Tk hT4 (by decide +kernel)) (vx_Tz hT4 (by decide +kernel)) (vx_ix k42 (by decide)) (fun h43 e43 => ?_)
        have hT43 := vx_TK hT4 e43
        replace H := H h43 e43 hT43
        refine vx_aload_n (n := 0) (q := 211) (by decide +kernel) rfl ?_
        refine vx_getR (b := 639) (idx := 50) (kd := 9) (s := 20) (fin := true) (q := 214) (by decide +kernel) (vx_Tk hT43 (by decide +kernel)) (vx_Tr hT43 (kd := 9) (by decide +kernel) (by decide +kernel) (by decide +kernel)) ?_
        refine vx_aload_n (n := 0) (q := 215) (by decide +kernel) rfl ?_
        refine vx_getI (idx := 223) (kd := 9) (s := 42) (fin := false) (q := 218) (by decide +kernel) (vx_Tk hT43 (by decide +kernel)) ?_
        obtain ⟨k44, H⟩ := H
        refine vx_iaload (z := 61) (q := 219) (by decide +kernel) (vx_Tk hT43 (by decide +kernel)) (vx_Tz hT43 (by decide +kernel)) (vx_ix k44 (by decide)) ?_
        refine vx_tsw (dd := 120) (lo := 2) (hi := 4) (offs := #[25, 46, 85]) (tl := [(2, 244), (3, 265), (4, 304)]) (td := 339) (q := 244) (by decide +kernel) (vx_rI_J h43 639 (vx_J h43 625 42).toNat) ⟨fun c45 => ?_, fun c45 => ?_, fun c45 => ?_, trivial⟩ (fun c45 => ?_)
        · replace H := H.1 c45
          refine vx_aload_n (n := 0) (q := 245) (by decide +kernel) rfl ?_
          refine vx_getR (b := 671) (idx := 151) (kd := 9) (s := 77) (fin := true) (q := 248) (by decide +kernel) (vx_Tk hT43 (by decide +kernel)) (vx_Tr hT43 (kd := 9) (by decide +kernel) (by decide +kernel) (by decide +kernel)) ?_
          refine vx_iload (n := 5) (q := 250) (by decide +kernel) rfl ?_
          refine vx_aload_n (n := 0) (q := 251) (by decide +kernel) rfl ?_
          refine vx_getR (b := 671) (idx := 151) (kd := 9) (s := 77) (fin := true) (q := 254) (by decide +kernel) (vx_Tk hT43 (by decide +kernel)) (vx_Tr hT43 (kd := 9) (by decide +kernel) (by decide +kernel) (by decide +kernel)) ?_
          refine vx_iload (n := 5) (q := 256) (by decide +kernel) rfl ?_
          obtain ⟨k46, H⟩ := H
          refine vx_laload (z := 202) (q := 257) (by decide +kernel) (vx_Tk hT43 (by decide +kernel)) (vx_Tz hT43 (by decide +kernel)) (vx_ix k46 (by decide)) ?_
          refine vx_l2i (q := 258) (by decide +kernel) ?_
          refine vx_iconst (n := 1) (q := 259) (by decide +kernel) ?_
          refine vx_iadd (q := 260) (by decide +kernel) ?_
          obtain ⟨k47, H⟩ := H
          refine vx_i2l (q := 261) (by decide +kernel) k47 ?_
          obtain ⟨k48, H⟩ := H
          refine vx_lastore (z := 202) (q := 262) (by decide +kernel) (vx_Tk hT43 (by decide +kernel)) (vx_Tz hT43 (by decide +kernel)) (vx_ix k48 (by decide)) (fun h49 e49 => ?_)
          have hT49 := vx_TK hT43 e49
          replace H := H h49 e49 hT49
          refine vx_goto (off := 109) (q := 265) (t := 371) (by decide +kernel) ?_
          refine vx_retV (q := 372) (by decide +kernel) ?_
          exact H
        · replace H := H.2.1 c45
          refine vx_aload_n (n := 0) (q := 266) (by decide +kernel) rfl ?_
          refine vx_getR (b := 671) (idx := 151) (kd := 9) (s := 77) (fin := true) (q := 269) (by decide +kernel) (vx_Tk hT43 (by decide +kernel)) (vx_Tr hT43 (kd := 9) (by decide +kernel) (by decide +kernel) (by decide +kernel)) ?_
          refine vx_iload (n := 5) (q := 271) (by decide +kernel) rfl ?_
          refine vx_lload_n (n := 3) (q := 272) (by decide +kernel) rfl ?_
          refine vx_callI (i := .invokestatic 364) (how := 4) (cm := 66) (np := 1) (q := 275) (args := [.long (vx_l v3)]) (rest := [.int (vx_i v5), .ref 671]) (by decide +kernel) rfl rfl rfl (vx_w2 (w := 2) (ml := 2) rfl (by decide +kernel)) rfl H (fun r50 h50 hr50 hs50 H => ?_)
          have hT50 := vx_Tsh hT43 hs50
          replace H := H hT50
          refine vx_if0_eq (off := 13) (q := 278) (t := 288) (by decide +kernel) hr50 (fun c51 => ?_) (fun c51 => ?_)
          · replace H := H.1 c51
            refine vx_aload_n (n := 0) (q := 289) (by decide +kernel) rfl ?_
            refine vx_getR (b := 671) (idx := 151) (kd := 9) (s := 77) (fin := true) (q := 292) (by decide +kernel) (vx_Tk hT50 (by decide +kernel)) (vx_Tr hT50 (kd := 9) (by decide +kernel) (by decide +kernel) (by decide +kernel)) ?_
            refine vx_iload (n := 5) (q := 294) (by decide +kernel) rfl ?_
            obtain ⟨k52, H⟩ := H
            refine vx_laload (z := 202) (q := 295) (by decide +kernel) (vx_Tk hT50 (by decide +kernel)) (vx_Tz hT50 (by decide +kernel)) (vx_ix k52 (by decide)) ?_
            refine vx_l2i (q := 296) (by decide +kernel) ?_
            refine vx_lload_n (n := 3) (q := 297) (by decide +kernel) rfl ?_
            refine vx_l2i (q := 298) (by decide +kernel) ?_
            refine vx_iadd (q := 299) (by decide +kernel) ?_
            obtain ⟨k53, H⟩ := H
            refine vx_i2l (q := 300) (by decide +kernel) k53 ?_
            obtain ⟨k54, H⟩ := H
            refine vx_lastore (z := 202) (q := 301) (by decide +kernel) (vx_Tk hT50 (by decide +kernel)) (vx_Tz hT50 (by decide +kernel)) (vx_ix k54 (by decide)) (fun h55 e55 => ?_)
            have hT55 := vx_TK hT50 e55
            replace H := H h55 e55 hT55
            refine vx_goto (off := 70) (q := 304) (t := 371) (by decide +kernel) ?_
            refine vx_retV (q := 372) (by decide +kernel) ?_
            exact H
          · replace H := H.2 c51
            refine vx_aload_n (n := 0) (q := 279) (by decide +kernel) rfl ?_
            refine vx_getR (b := 671) (idx := 151) (kd := 9) (s := 77) (fin := true) (q := 282) (by decide +kernel) (vx_Tk hT50 (by decide +kernel)) (vx_Tr hT50 (kd := 9) (by decide +kernel) (by decide +kernel) (by decide +kernel)) ?_
            refine vx_iload (n := 5) (q := 284) (by decide +kernel) rfl ?_
            obtain ⟨k56, H⟩ := H
            refine vx_laload (z := 202) (q := 285) (by decide +kernel) (vx_Tk hT50 (by decide +kernel)) (vx_Tz hT50 (by decide +kernel)) (vx_ix k56 (by decide)) ?_
            refine vx_goto (off := 15) (q := 288) (t := 300) (by decide +kernel) ?_
            obtain ⟨k57, H⟩ := H
            refine vx_lastore (z := 202) (q := 301) (by decide +kernel) (vx_Tk hT50 (by decide +kernel)) (vx_Tz hT50 (by decide +kernel)) (vx_ix k57 (by decide)) (fun h58 e58 => ?_)
            have hT58 := vx_TK hT50 e58
            replace H := H h58 e58 hT58
            refine vx_goto (off := 70) (q := 304) (t := 371) (by decide +kernel) ?_
            refine vx_retV (q := 372) (by decide +kernel) ?_
            exact H
        · replace H := H.2.2.1 c45
          refine vx_aload_n (n := 0) (q := 305) (by decide +kernel) rfl ?_
          refine vx_getR (b := 671) (idx := 151) (kd := 9) (s := 77) (fin := true) (q := 308) (by decide +kernel) (vx_Tk hT43 (by decide +kernel)) (vx_Tr hT43 (kd := 9) (by decide +kernel) (by decide +kernel) (by decide +kernel)) ?_
          refine vx_iload (n := 5) (q := 310) (by decide +kernel) rfl ?_
          refine vx_lload_n (n := 3) (q := 311) (by decide +kernel) rfl ?_
          refine vx_aload_n (n := 0) (q := 312) (by decide +kernel) rfl ?_
          refine vx_getR (b := 671) (idx := 151) (kd := 9) (s := 77) (fin := true) (q := 315) (by decide +kernel) (vx_Tk hT43 (by decide +kernel)) (vx_Tr hT43 (kd := 9) (by decide +kernel) (by decide +kernel) (by decide +kernel)) ?_
          refine vx_iload (n := 5) (q := 317) (by decide +kernel) rfl ?_
          obtain ⟨k59, H⟩ := H
          refine vx_laload (z := 202) (q := 318) (by decide +kernel) (vx_Tk hT43 (by decide +kernel)) (vx_Tz hT43 (by decide +kernel)) (vx_ix k59 (by decide)) ?_
          refine vx_callI (i := .invokestatic 375) (how := 4) (cm := 67) (np := 2) (q := 321) (args := [.long (vx_l v3), .long (vx_l (vx_K h43 671 v5.toNat))]) (rest := [.int (vx_i v5), .ref 671]) (by decide +kernel) rfl rfl rfl (vx_w2 (w := 4) (ml := 8) rfl (by decide +kernel)) rfl H (fun r60 h60 hr60 hs60 H => ?_)
          have hT60 := vx_Tsh hT43 hs60
          replace H := H hT60
          refine vx_if0_ge (off := 7) (q := 324) (t := 328) (by decide +kernel) hr60 (fun c61 => ?_) (fun c61 => ?_)
          · replace H := H.1 c61
            refine vx_aload_n (n := 0) (q := 329) (by decide +kernel) rfl ?_
            refine vx_getR (b := 671) (idx := 151) (kd := 9) (s := 77) (fin := true) (q := 332) (by decide +kernel) (vx_Tk hT60 (by decide +kernel)) (vx_Tr hT60 (kd := 9) (by decide +kernel) (by decide +kernel) (by decide +kernel)) ?_
            refine vx_iload (n := 5) (q := 334) (by decide +kernel) rfl ?_
            obtain ⟨k62, H⟩ := H
            refine vx_laload (z := 202) (q := 335) (by decide +kernel) (vx_Tk hT60 (by decide +kernel)) (vx_Tz hT60 (by decide +kernel)) (vx_ix k62 (by decide)) ?_
            obtain ⟨k63, H⟩ := H
            refine vx_lastore (z := 202) (q := 336) (by decide +kernel) (vx_Tk hT60 (by decide +kernel)) (vx_Tz hT60 (by decide +kernel)) (vx_ix k63 (by decide)) (fun h64 e64 => ?_)
            have hT64 := vx_TK hT60 e64
            replace H := H h64 e64 hT64
            refine vx_goto (off := 35) (q := 339) (t := 371) (by decide +kernel) ?_
            refine vx_retV (q := 372) (by decide +kernel) ?_
            exact H
          · replace H := H.2 c61
            refine vx_lload_n (n := 3) (q := 325) (by decide +kernel) rfl ?_
            refine vx_goto (off := 10) (q := 328) (t := 335) (by decide +kernel) ?_
            obtain ⟨k65, H⟩ := H
            refine vx_lastore (z := 202) (q := 336) (by decide +kernel) (vx_Tk hT60 (by decide +kernel)) (vx_Tz hT60 (by decide +kernel)) (vx_ix k65 (by decide)) (fun h66 e66 => ?_)
            have hT66 := vx_TK hT60 e66
            replace H := H h66 e66 hT66
            refine vx_goto (off := 35) (q := 339) (t := 371) (by decide +kernel) ?_
            refine vx_retV (q := 372) (by decide +kernel) ?_
            exact H
        · replace H := H.2.2.2 c45
          refine vx_aload_n (n := 0) (q := 340) (by decide +kernel) rfl ?_
          refine vx_getR (b := 671) (idx := 151) (kd := 9) (s := 77) (fin := true) (q := 343) (by decide +kernel) (vx_Tk hT43 (by decide +kernel)) (vx_Tr hT43 (kd := 9) (by decide +kernel) (by decide +kernel) (by decide +kernel)) ?_
          refine vx_iload (n := 5) (q := 345) (by decide +kernel) rfl ?_
          refine vx_lload_n (n := 3) (q := 346) (by decide +kernel) rfl ?_
          refine vx_aload_n (n := 0) (q := 347) (by decide +kernel) rfl ?_
          refine vx_getR (b := 671) (idx := 151) (kd := 9) (s := 77) (fin := true) (q := 350) (by decide +kernel) (vx_Tk hT43 (by decide +kernel)) (vx_Tr hT43 (kd := 9) (by decide +kernel) (by decide +kernel) (by decide +kernel)) ?_
          refine vx_iload (n := 5) (q := 352) (by decide +kernel) rfl ?_
          obtain ⟨k67, H⟩ := H
          refine vx_laload (z := 202) (q := 353) (by decide +kernel) (vx_Tk hT43 (by decide +kernel)) (vx_Tz hT43 (by decide +kernel)) (vx_ix k67 (by decide)) ?_
          refine vx_callI (i := .invokestatic 375) (how := 4) (cm := 67) (np := 2) (q := 356) (args := [.long (vx_l v3), .long (vx_l (vx_K h43 671 v5.toNat))]) (rest := [.int (vx_i v5), .ref 671]) (by decide +kernel) rfl rfl rfl (vx_w2 (w := 4) (ml := 8) rfl (by decide +kernel)) rfl H (fun r68 h68 hr68 hs68 H => ?_)
          have hT68 := vx_Tsh hT43 hs68
          replace H := H hT68
          refine vx_if0_le (off := 7) (q := 359) (t := 363) (by decide +kernel) hr68 (fun c69 => ?_) (fun c69 => ?_)
          · replace H := H.1 c69
            refine vx_aload_n (n := 0) (q := 364) (by decide +kernel) rfl ?_
            refine vx_getR (b := 671) (idx := 151) (kd := 9) (s := 77) (fin := true) (q := 367) (by decide +kernel) (vx_Tk hT68 (by decide +kernel)) (vx_Tr hT68 (kd := 9) (by decide +kernel) (by decide +kernel) (by decide +kernel)) ?_
            refine vx_iload (n := 5) (q := 369) (by decide +kernel) rfl ?_
            obtain ⟨k70, H⟩ := H
            refine vx_laload (z := 202) (q := 370) (by decide +kernel) (vx_Tk hT68 (by decide +kernel)) (vx_Tz hT68 (by decide +kernel)) (vx_ix k70 (by decide)) ?_
            obtain ⟨k71, H⟩ := H
            refine vx_lastore (z := 202) (q := 371) (by decide +kernel) (vx_Tk hT68 (by decide +kernel)) (vx_Tz hT68 (by decide +kernel)) (vx_ix k71 (by decide)) (fun h72 e72 => ?_)
            have hT72 := vx_TK hT68 e72
            replace H := H h72 e72 hT72
            refine vx_retV (q := 372) (by decide +kernel) ?_
            exact H
          · replace H := H.2 c69
            refine vx_lload_n (n := 3) (q := 360) (by decide +kernel) rfl ?_
            refine vx_goto (off := 10) (q := 363) (t := 370) (by decide +kernel) ?_
            obtain ⟨k73, H⟩ := H
            refine vx_lastore (z := 202) (q := 371) (by decide +kernel) (vx_Tk hT68 (by decide +kernel)) (vx_Tz hT68 (by decide +kernel)) (vx_ix k73 (by decide)) (fun h74 e74 => ?_)
            have hT74 := vx_TK hT68 e74
            replace H := H h74 e74 hT74
            refine vx_retV (q := 372) (by decide +kernel) ?_
            exact H
      · replace H := H.2 c41
        refine vx_lconst (n := 0) (m := 0) (q := 205) (by decide +kernel) ?_
        refine vx_goto (off := 4) (q := 208) (t := 209) (by decide +kernel) ?_
        obtain ⟨k75, H⟩ := H
        refine vx_lastore (z := 202) (q := 210) (by decide +kernel) (vx_Tk hT4 (by decide +kernel)) (vx_Tz hT4 (by decide +kernel)) (vx_ix k75 (by decide)) (fun h76 e76 => ?_)
        have hT76 := vx_TK hT4 e76
        replace H := H h76 e76 hT76
        refine vx_aload_n (n := 0) (q := 211) (by decide +kernel) rfl ?_
        refine vx_getR (b := 639) (idx := 50) (kd := 9) (s := 20) (fin := true) (q := 214) (by decide +kernel) (vx_Tk hT76 (by decide +kernel)) (vx_Tr hT76 (kd := 9) (by decide +kernel) (by decide +kernel) (by decide +kernel)) ?_
        refine vx_aload_n (n := 0) (q := 215) (by decide +kernel) rfl ?_
        refine vx_getI (idx := 223) (kd := 9) (s := 42) (fin := false) (q := 218) (by decide +kernel) (vx_Tk hT76 (by decide +kernel)) ?_
        obtain ⟨k77, H⟩ := H
        refine vx_iaload (z := 61) (q := 219) (by decide +kernel) (vx_Tk hT76 (by decide +kernel)) (vx_Tz hT76 (by decide +kernel)) (vx_ix k77 (by decide)) ?_
        refine vx_tsw (dd := 120) (lo := 2) (hi := 4) (offs := #[25, 46, 85]) (tl := [(2, 244), (3, 265), (4, 304)]) (td := 339) (q := 244) (by decide +kernel) (vx_rI_J h76 639 (vx_J h76 625 42).toNat) ⟨fun c78 => ?_, fun c78 => ?_, fun c78 => ?_, trivial⟩ (fun c78 => ?_)
        · replace H := H.1 c78
          refine vx_aload_n (n := 0) (q := 245) (by decide +kernel) rfl ?_
          refine vx_getR (b := 671) (idx := 151) (kd := 9) (s := 77) (fin := true) (q := 248) (by decide +kernel) (vx_Tk hT76 (by decide +kernel)) (vx_Tr hT76 (kd := 9) (by decide +kernel) (by decide +kernel) (by decide +kernel)) ?_
          refine vx_iload (n := 5) (q := 250) (by decide +kernel) rfl ?_
          refine vx_aload_n (n := 0) (q := 251) (by decide +kernel) rfl ?_
          refine vx_getR (b := 671) (idx := 151) (kd := 9) (s := 77) (fin := true) (q := 254) (by decide +kernel) (vx_Tk hT76 (by decide +kernel)) (vx_Tr hT76 (kd := 9) (by decide +kernel) (by decide +kernel) (by decide +kernel)) ?_
          refine vx_iload (n := 5) (q := 256) (by decide +kernel) rfl ?_
          obtain ⟨k79, H⟩ := H
          refine vx_laload (z := 202) (q := 257) (by decide +kernel) (vx_Tk hT76 (by decide +kernel)) (vx_Tz hT76 (by decide +kernel)) (vx_ix k79 (by decide)) ?_
          refine vx_l2i (q := 258) (by decide +kernel) ?_
          refine vx_iconst (n := 1) (q := 259) (by decide +kernel) ?_
          refine vx_iadd (q := 260) (by decide +kernel) ?_
          obtain ⟨k80, H⟩ := H
          refine vx_i2l (q := 261) (by decide +kernel) k80 ?_
          obtain ⟨k81, H⟩ := H
          refine vx_lastore (z := 202) (q := 262) (by decide +kernel) (vx_Tk hT76 (by decide +kernel)) (vx_Tz hT76 (by decide +kernel)) (vx_ix k81 (by decide)) (fun h82 e82 => ?_)
          have hT82 := vx_TK hT76 e82
          replace H := H h82 e82 hT82
          refine vx_goto (off := 109) (q := 265) (t := 371) (by decide +kernel) ?_
          refine vx_retV (q := 372) (by decide +kernel) ?_
          exact H
        · replace H := H.2.1 c78
          refine vx_aload_n (n := 0) (q := 266) (by decide +kernel) rfl ?_
          refine vx_getR (b := 671) (idx := 151) (kd := 9) (s := 77) (fin := true) (q := 269) (by decide +kernel) (vx_Tk hT76 (by decide +kernel)) (vx_Tr hT76 (kd := 9) (by decide +kernel) (by decide +kernel) (by decide +kernel)) ?_
          refine vx_iload (n := 5) (q := 271) (by decide +kernel) rfl ?_
          refine vx_lload_n (n := 3) (q := 272) (by decide +kernel) rfl ?_
          refine vx_callI (i := .invokestatic 364) (how := 4) (cm := 66) (np := 1) (q := 275) (args := [.long (vx_l v3)]) (rest := [.int (vx_i v5), .ref 671]) (by decide +kernel) rfl rfl rfl (vx_w2 (w := 2) (ml := 2) rfl (by decide +kernel)) rfl H (fun r83 h83 hr83 hs83 H => ?_)
          have hT83 := vx_Tsh hT76 hs83
          replace H := H hT83
          refine vx_if0_eq (off := 13) (q := 278) (t := 288) (by decide +kernel) hr83 (fun c84 => ?_) (fun c84 => ?_)
          · replace H := H.1 c84
            refine vx_aload_n (n := 0) (q := 289) (by decide +kernel) rfl ?_
            refine vx_getR (b := 671) (idx := 151) (kd := 9) (s := 77) (fin := true) (q := 292) (by decide +kernel) (vx_Tk hT83 (by decide +kernel)) (vx_Tr hT83 (kd := 9) (by decide +kernel) (by decide +kernel) (by decide +kernel)) ?_
            refine vx_iload (n := 5) (q := 294) (by decide +kernel) rfl ?_
            obtain ⟨k85, H⟩ := H
            refine vx_laload (z := 202) (q := 295) (by decide +kernel) (vx_Tk hT83 (by decide +kernel)) (vx_Tz hT83 (by decide +kernel)) (vx_ix k85 (by decide)) ?_
            refine vx_l2i (q := 296) (by decide +kernel) ?_
            refine vx_lload_n (n := 3) (q := 297) (by decide +kernel) rfl ?_
            refine vx_l2i (q := 298) (by decide +kernel) ?_
            refine vx_iadd (q := 299) (by decide +kernel) ?_
            obtain ⟨k86, H⟩ := H
            refine vx_i2l (q := 300) (by decide +kernel) k86 ?_
            obtain ⟨k87, H⟩ := H
            refine vx_lastore (z := 202) (q := 301) (by decide +kernel) (vx_Tk hT83 (by decide +kernel)) (vx_Tz hT83 (by decide +kernel)) (vx_ix k87 (by decide)) (fun h88 e88 => ?_)
            have hT88 := vx_TK hT83 e88
            replace H := H h88 e88 hT88
            refine vx_goto (off := 70) (q := 304) (t := 371) (by decide +kernel) ?_
            refine vx_retV (q := 372) (by decide +kernel) ?_
            exact H
          · replace H := H.2 c84
            refine vx_aload_n (n := 0) (q := 279) (by decide +kernel) rfl ?_
            refine vx_getR (b := 671) (idx := 151) (kd := 9) (s := 77) (fin := true) (q := 282) (by decide +kernel) (vx_Tk hT83 (by decide +kernel)) (vx_Tr hT83 (kd := 9) (by decide +kernel) (by decide +kernel) (by decide +kernel)) ?_
            refine vx_iload (n := 5) (q := 284) (by decide +kernel) rfl ?_
            obtain ⟨k89, H⟩ := H
            refine vx_laload (z := 202) (q := 285) (by decide +kernel) (vx_Tk hT83 (by decide +kernel)) (vx_Tz hT83 (by decide +kernel)) (vx_ix k89 (by decide)) ?_
            refine vx_goto (off := 15) (q := 288) (t := 300) (by decide +kernel) ?_
            obtain ⟨k90, H⟩ := H
            refine vx_lastore (z := 202) (q := 301) (by decide +kernel) (vx_Tk hT83 (by decide +kernel)) (vx_Tz hT83 (by decide +kernel)) (vx_ix k90 (by decide)) (fun h91 e91 => ?_)
            have hT91 := vx_TK hT83 e91
            replace H := H h91 e91 hT91
            refine vx_goto (off := 70) (q := 304) (t := 371) (by decide +kernel) ?_
            refine vx_retV (q := 372) (by decide +kernel) ?_
            exact H
        · replace H := H.2.2.1 c78
          refine vx_aload_n (n := 0) (q := 305) (by decide +kernel) rfl ?_
          refine vx_getR (b := 671) (idx := 151) (kd := 9) (s := 77) (fin := true) (q := 308) (by decide +kernel) (vx_Tk hT76 (by decide +kernel)) (vx_Tr hT76 (kd := 9) (by decide +kernel) (by decide +kernel) (by decide +kernel)) ?_
          refine vx_iload (n := 5) (q := 310) (by decide +kernel) rfl ?_
          refine vx_lload_n (n := 3) (q := 311) (by decide +kernel) rfl ?_
          refine vx_aload_n (n := 0) (q := 312) (by decide +kernel) rfl ?_
          refine vx_getR (b := 671) (idx := 151) (kd := 9) (s := 77) (fin := true) (q := 315) (by decide +kernel) (vx_Tk hT76 (by decide +kernel)) (vx_Tr hT76 (kd := 9) (by decide +kernel) (by decide +kernel) (by decide +kernel)) ?_
          refine vx_iload (n := 5) (q := 317) (by decide +kernel) rfl ?_
          obtain ⟨k92, H⟩ := H
          refine vx_laload (z := 202) (q := 318) (by decide +kernel) (vx_Tk hT76 (by decide +kernel)) (vx_Tz hT76 (by decide +kernel)) (vx_ix k92 (by decide)) ?_
          refine vx_callI (i := .invokestatic 375) (how := 4) (cm := 67) (np := 2) (q := 321) (args := [.long (vx_l v3), .long (vx_l (vx_K h76 671 v5.toNat))]) (rest := [.int (vx_i v5), .ref 671]) (by decide +kernel) rfl rfl rfl (vx_w2 (w := 4) (ml := 8) rfl (by decide +kernel)) rfl H (fun r93 h93 hr93 hs93 H => ?_)
          have hT93 := vx_Tsh hT76 hs93
          replace H := H hT93
          refine vx_if0_ge (off := 7) (q := 324) (t := 328) (by decide +kernel) hr93 (fun c94 => ?_) (fun c94 => ?_)
          · replace H := H.1 c94
            refine vx_aload_n (n := 0) (q := 329) (by decide +kernel) rfl ?_
            refine vx_getR (b := 671) (idx := 151) (kd := 9) (s := 77) (fin := true) (q := 332) (by decide +kernel) (vx_Tk hT93 (by decide +kernel)) (vx_Tr hT93 (kd := 9) (by decide +kernel) (by decide +kernel) (by decide +kernel)) ?_
            refine vx_iload (n := 5) (q := 334) (by decide +kernel) rfl ?_
            obtain ⟨k95, H⟩ := H
            refine vx_laload (z := 202) (q := 335) (by decide +kernel) (vx_Tk hT93 (by decide +kernel)) (vx_Tz hT93 (by decide +kernel)) (vx_ix k95 (by decide)) ?_
            obtain ⟨k96, H⟩ := H
            refine vx_lastore (z := 202) (q := 336) (by decide +kernel) (vx_Tk hT93 (by decide +kernel)) (vx_Tz hT93 (by decide +kernel)) (vx_ix k96 (by decide)) (fun h97 e97 => ?_)
            have hT97 := vx_TK hT93 e97
            replace H := H h97 e97 hT97
            refine vx_goto (off := 35) (q := 339) (t := 371) (by decide +kernel) ?_
            refine vx_retV (q := 372) (by decide +kernel) ?_
            exact H
          · replace H := H.2 c94
            refine vx_lload_n (n := 3) (q := 325) (by decide +kernel) rfl ?_
            refine vx_goto (off := 10) (q := 328) (t := 335) (by decide +kernel) ?_
            obtain ⟨k98, H⟩ := H
            refine vx_lastore (z := 202) (q := 336) (by decide +kernel) (vx_Tk hT93 (by decide +kernel)) (vx_Tz hT93 (by decide +kernel)) (vx_ix k98 (by decide)) (fun h99 e99 => ?_)
            have hT99 := vx_TK hT93 e99
            replace H := H h99 e99 hT99
            refine vx_goto (off := 35) (q := 339) (t := 371) (by decide +kernel) ?_
            refine vx_retV (q := 372) (by decide +kernel) ?_
            exact H
        · replace H := H.2.2.2 c78
          refine vx_aload_n (n := 0) (q := 340) (by decide +kernel) rfl ?_
          refine vx_getR (b := 671) (idx := 151) (kd := 9) (s := 77) (fin := true) (q := 343) (by decide +kernel) (vx_Tk hT76 (by decide +kernel)) (vx_Tr hT76 (kd := 9) (by decide +kernel) (by decide +kernel) (by decide +kernel)) ?_
          refine vx_iload (n := 5) (q := 345) (by decide +kernel) rfl ?_
          refine vx_lload_n (n := 3) (q := 346) (by decide +kernel) rfl ?_
          refine vx_aload_n (n := 0) (q := 347) (by decide +kernel) rfl ?_
          refine vx_getR (b := 671) (idx := 151) (kd := 9) (s := 77) (fin := true) (q := 350) (by decide +kernel) (vx_Tk hT76 (by decide +kernel)) (vx_Tr hT76 (kd := 9) (by decide +kernel) (by decide +kernel) (by decide +kernel)) ?_
          refine vx_iload (n := 5) (q := 352) (by decide +kernel) rfl ?_
          obtain ⟨k100, H⟩ := H
          refine vx_laload (z := 202) (q := 353) (by decide +kernel) (vx_Tk hT76 (by decide +kernel)) (vx_Tz hT76 (by decide +kernel)) (vx_ix k100 (by decide)) ?_
          refine vx_callI (i := .invokestatic 375) (how := 4) (cm := 67) (np := 2) (q := 356) (args := [.long (vx_l v3), .long (vx_l (vx_K h76 671 v5.toNat))]) (rest := [.int (vx_i v5), .ref 671]) (by decide +kernel) rfl rfl rfl (vx_w2 (w := 4) (ml := 8) rfl (by decide +kernel)) rfl H (fun r101 h101 hr101 hs101 H => ?_)
          have hT101 := vx_Tsh hT76 hs101
          replace H := H hT101
          refine vx_if0_le (off := 7) (q := 359) (t := 363) (by decide +kernel) hr101 (fun c102 => ?_) (fun c102 => ?_)
          · replace H := H.1 c102
            refine vx_aload_n (n := 0) (q := 364) (by decide +kernel) rfl ?_
            refine vx_getR (b := 671) (idx := 151) (kd := 9) (s := 77) (fin := true) (q := 367) (by decide +kernel) (vx_Tk hT101 (by decide +kernel)) (vx_Tr hT101 (kd := 9) (by decide +kernel) (by decide +kernel) (by decide +kernel)) ?_
            refine vx_iload (n := 5) (q := 369) (by decide +kernel) rfl ?_
            obtain ⟨k103, H⟩ := H
            refine vx_laload (z := 202) (q := 370) (by decide +kernel) (vx_Tk hT101 (by decide +kernel)) (vx_Tz hT101 (by decide +kernel)) (vx_ix k103 (by decide)) ?_
            obtain ⟨k104, H⟩ := H
            refine vx_lastore (z := 202) (q := 371) (by decide +kernel) (vx_Tk hT101 (by decide +kernel)) (vx_Tz hT101 (by decide +kernel)) (vx_ix k104 (by decide)) (fun h105 e105 => ?_)
            have hT105 := vx_TK hT101 e105
            replace H := H h105 e105 hT105
            refine vx_retV (q := 372) (by decide +kernel) ?_
            exact H
          · replace H := H.2 c102
            refine vx_lload_n (n := 3) (q := 360) (by decide +kernel) rfl ?_
            refine vx_goto (off := 10) (q := 363) (t := 370) (by decide +kernel) ?_
            obtain ⟨k106, H⟩ := H
            refine vx_lastore (z := 202) (q := 371) (by decide +kernel) (vx_Tk hT101 (by decide +kernel)) (vx_Tz hT101 (by decide +kernel)) (vx_ix k106 (by decide)) (fun h107 e107 => ?_)
            have hT107 := vx_TK hT101 e107
            replace H := H h107 e107 hT107
            refine vx_retV (q := 372) (by decide +kernel) ?_
            exact H
  · replace H := H.2 c3
    refine vx_aload_n (n := 0) (q := 138) (by decide +kernel) rfl ?_
    refine vx_getR (b := 670) (idx := 148) (kd := 9) (s := 76) (fin := true) (q := 141) (by decide +kernel) (vx_Tk hT (by decide +kernel)) (vx_Tr hT (kd := 9) (by decide +kernel) (by decide +kernel) (by decide +kernel)) ?_
    refine vx_iconst (n := 4) (q := 142) (by decide +kernel) ?_
    refine vx_iload (n := 5) (q := 144) (by decide +kernel) rfl ?_
    refine vx_imul (q := 145) (by decide +kernel) ?_
    refine vx_iload (n := 7) (q := 147) (by decide +kernel) rfl ?_
    refine vx_iadd (q := 148) (by decide +kernel) ?_
    refine vx_aload_n (n := 0) (q := 149) (by decide +kernel) rfl ?_
    refine vx_getR (b := 669) (idx := 145) (kd := 9) (s := 74) (fin := true) (q := 152) (by decide +kernel) (vx_Tk hT (by decide +kernel)) (vx_Tr hT (kd := 9) (by decide +kernel) (by decide +kernel) (by decide +kernel)) ?_
    refine vx_iload (n := 7) (q := 154) (by decide +kernel) rfl ?_
    obtain ⟨k108, H⟩ := H
    refine vx_laload (z := 4) (q := 155) (by decide +kernel) (vx_Tk hT (by decide +kernel)) (vx_Tz hT (by decide +kernel)) (vx_ix k108 (by decide)) ?_
    obtain ⟨k109, H⟩ := H
    refine vx_lastore (z := 810) (q := 156) (by decide +kernel) (vx_Tk hT (by decide +kernel)) (vx_Tz hT (by decide +kernel)) (vx_ix k109 (by decide)) (fun h110 e110 => ?_)
    have hT110 := vx_TK hT e110
    replace H := H h110 e110 hT110
    refine vx_iinc (n := 7) (m := 1) (x := v7) (q := 159) (lv' := [some (.ref 625), some (.int (vx_i v1)), some (.int (vx_i v2)), some (.long (vx_l v3)), none, some (.int (vx_i v5)), some (.int (vx_i v6)), some (.int (vx_i (v7 + 1)))]) (by decide +kernel) rfl rfl ?_
    refine vx_goto (off := (-28)) (q := 162) (t := 131) (by decide +kernel) ?_
    exact H
-- RuleHouseModel.isGroup(II)Z
theorem vg_87 {d : Nat} {h : ve_H} {P : Int → ve_H → Prop} {x1 : Int} {x2 : Int} (hT : vx_T 625 672 h) (H : vx_W d 87 2 [some (.ref 625), some (.int (vx_i x1)), some (.int (vx_i x2)), some (.int (vx_i 0))] [] h (vx_RI P)) : vx_CI d 87 [.ref 625, .int (vx_i x1), .int (vx_i x2)] h P := by
  refine vx_enter (ml := 4) (by decide +kernel) ?_
  show vx_W _ _ 0 [some (.ref 625), some (.int (vx_i x1)), some (.int (vx_i x2)), none] [] h _
  refine vx_iconst (n := 0) (q := 1) (by decide +kernel) ?_
  refine vx_istore_n (n := 3) (q := 2) (lv' := [some (.ref 625), some (.int (vx_i x1)), some (.int (vx_i x2)), some (.int (vx_i 0))]) (by decide +kernel) rfl ?_
  exact H
theorem vg_87_2 {d : Nat} {h : ve_H} {P : Int → ve_H → Prop} {v1 : Int} {v2 : Int} {v3 : Int} (hT : vx_T 625 672 h) (H : (vx_rI v3) ∧ (vx_rI v2) ∧ ((v2 ≤ v3 → P 1 h) ∧ (v3 < v2 → (0 ≤ ((4 * v1) + v3) ∧ ((4 * v1) + v3) < 810) ∧ (0 ≤ v3 ∧ v3 < 4) ∧ (((vx_K h 670 ((4 * v1) + v3).toNat) = (vx_K h 669 v3.toNat) → vx_W d 87 2 [some (.ref 625), some (.int (vx_i v1)), some (.int (vx_i v2)), some (.int (vx_i (v3 + 1)))] [] h (vx_RI P)) ∧ ((vx_K h 670 ((4 * v1) + v3).toNat) ≠ (vx_K h 669 v3.toNat) → P 0 h))))) : vx_W d 87 2 [some (.ref 625), some (.int (vx_i v1)), some (.int (vx_i v2)), some (.int (vx_i v3))] [] h (vx_RI P) := by
  refine vx_iload_n (n := 3) (q := 3) (by decide +kernel) rfl ?_
  refine vx_iload_n (n := 2) (q := 4) (by decide +kernel) rfl ?_
  obtain ⟨k1, H⟩ := H
  obtain ⟨k2, H⟩ := H
  refine vx_icmp_ge (off := 31) (q := 7) (t := 35) (by decide +kernel) k1 k2 (fun c3 => ?_) (fun c3 => ?_)
  · replace H := H.1 c3
    refine vx_iconst (n := 1) (q := 36) (by decide +kernel) ?_
    refine vx_retZ (q := 37) (by decide +kernel) (Or.inr rfl) ?_
    exact H
  · replace H := H.2 c3
    refine vx_aload_n (n := 0) (q := 8) (by decide +kernel) rfl ?_
    refine vx_getR (b := 670) (idx := 148) (kd := 9) (s := 76) (fin := true) (q := 11) (by decide +kernel) (vx_Tk hT (by decide +kernel)) (vx_Tr hT (kd := 9) (by decide +kernel) (by decide +kernel) (by decide +kernel)) ?_
    refine vx_iconst (n := 4) (q := 12) (by decide +kernel) ?_
    refine vx_iload_n (n := 1) (q := 13) (by decide +kernel) rfl ?_
    refine vx_imul (q := 14) (by decide +kernel) ?_
    refine vx_iload_n (n := 3) (q := 15) (by decide +kernel) rfl ?_
    refine vx_iadd (q := 16) (by decide +kernel) ?_
    obtain ⟨k4, H⟩ := H
    refine vx_laload (z := 810) (q := 17) (by decide +kernel) (vx_Tk hT (by decide +kernel)) (vx_Tz hT (by decide +kernel)) (vx_ix k4 (by decide)) ?_
    refine vx_aload_n (n := 0) (q := 18) (by decide +kernel) rfl ?_
    refine vx_getR (b := 669) (idx := 145) (kd := 9) (s := 74) (fin := true) (q := 21) (by decide +kernel) (vx_Tk hT (by decide +kernel)) (vx_Tr hT (kd := 9) (by decide +kernel) (by decide +kernel) (by decide +kernel)) ?_
    refine vx_iload_n (n := 3) (q := 22) (by decide +kernel) rfl ?_
    obtain ⟨k5, H⟩ := H
    refine vx_laload (z := 4) (q := 23) (by decide +kernel) (vx_Tk hT (by decide +kernel)) (vx_Tz hT (by decide +kernel)) (vx_ix k5 (by decide)) ?_
    refine vx_lc_eq (off := 5) (p := 24) (q := 27) (t := 29) (by decide +kernel) (vx_rL_K h 670 ((4 * v1) + v3).toNat) (vx_rL_K h 669 v3.toNat) (fun c6 => ?_) (fun c6 => ?_)
    · replace H := H.1 c6
      refine vx_iinc (n := 3) (m := 1) (x := v3) (q := 32) (lv' := [some (.ref 625), some (.int (vx_i v1)), some (.int (vx_i v2)), some (.int (vx_i (v3 + 1)))]) (by decide +kernel) rfl rfl ?_
      refine vx_goto (off := (-30)) (q := 35) (t := 2) (by decide +kernel) ?_
      exact H
    · replace H := H.2 c6
      refine vx_iconst (n := 0) (q := 28) (by decide +kernel) ?_
      refine vx_retZ (q := 29) (by decide +kernel) (Or.inl rfl) ?_
      exact H
-- RuleHouseModel.totals(I)V
theorem vg_88 {d : Nat} {h : ve_H} {P : ve_H → Prop} {x1 : Int} (hT : vx_T 625 672 h) (H : (∀ h1, h1 = vx_sJ h 625 75 0 → vx_T 625 672 h1 → (∀ h2, h2 = vx_sJ h1 625 66 1 → vx_T 625 672 h2 → vx_CV d 79 [.ref 625, .int (vx_i x1)] h2 (fun h3 => vx_T 625 672 h3 → (0 ≤ x1 ∧ x1 < 61) ∧ vx_CI d 83 [.ref 625, .int (vx_i (vx_J h3 636 x1.toNat))] h3 (fun r5 h5 => vx_T 625 672 h5 → vx_W (d + 1) 88 28 [some (.ref 625), some (.int (vx_i x1)), some (.int (vx_i r5)), some (.int (vx_i 0)), none] [] h5 (vx_RV P)))))) : vx_CV (d + 1) 88 [.ref 625, .int (vx_i x1)] h P := by
  refine vx_enter (ml := 5) (by decide +kernel) ?_
  show vx_W _ _ 0 [some (.ref 625), some (.int (vx_i x1)), none, none, none] [] h _
  refine vx_aload_n (n := 0) (q := 1) (by decide +kernel) rfl ?_
  refine vx_iconst (n := 0) (q := 2) (by decide +kernel) ?_
  refine vx_putI (idx := 453) (kd := 9) (s := 75) (fin := false) (q := 5) (by decide +kernel) (vx_Tk hT (by decide +kernel)) (fun h1 e1 => ?_)
  have hT1 := vx_TJ hT e1
  replace H := H h1 e1 hT1
  refine vx_aload_n (n := 0) (q := 6) (by decide +kernel) rfl ?_
  refine vx_iconst (n := 1) (q := 7) (by decide +kernel) ?_
  refine vx_putI (idx := 428) (kd := 9) (s := 66) (fin := false) (q := 10) (by decide +kernel) (vx_Tk hT1 (by decide +kernel)) (fun h2 e2 => ?_)
  have hT2 := vx_TJ hT1 e2
  replace H := H h2 e2 hT2
  refine vx_aload_n (n := 0) (q := 11) (by decide +kernel) rfl ?_
  refine vx_iload_n (n := 1) (q := 12) (by decide +kernel) rfl ?_
  refine vx_callV (i := .invokevirtual 459) (how := 3) (cm := 79) (np := 2) (q := 15) (args := [.ref 625, .int (vx_i x1)]) (rest := []) (by decide +kernel) rfl rfl rfl (vx_w2 (w := 2) (ml := 3) rfl (by decide +kernel)) (vx_rcv (kd := 9) (vx_Tk hT2 (by decide +kernel)) (by decide +kernel)) H (fun h3 hs3 H => ?_)
  have hT3 := vx_Tsh hT2 hs3
  replace H := H hT3
  refine vx_aload_n (n := 0) (q := 16) (by decide +kernel) rfl ?_
  refine vx_aload_n (n := 0) (q := 17) (by decide +kernel) rfl ?_
  refine vx_getR (b := 636) (idx := 41) (kd := 9) (s := 17) (fin := true) (q := 20) (by decide +kernel) (vx_Tk hT3 (by decide +kernel)) (vx_Tr hT3 (kd := 9) (by decide +kernel) (by decide +kernel) (by decide +kernel)) ?_
  refine vx_iload_n (n := 1) (q := 21) (by decide +kernel) rfl ?_
  obtain ⟨k4, H⟩ := H
  refine vx_iaload (z := 61) (q := 22) (by decide +kernel) (vx_Tk hT3 (by decide +kernel)) (vx_Tz hT3 (by decide +kernel)) (vx_ix k4 (by decide)) ?_
  refine vx_callI (i := .invokevirtual 440) (how := 3) (cm := 83) (np := 2) (q := 25) (args := [.ref 625, .int (vx_i (vx_J h3 636 x1.toNat))]) (rest := []) (by decide +kernel) rfl rfl rfl (vx_w2 (w := 2) (ml := 2) rfl (by decide +kernel)) (vx_rcv (kd := 9) (vx_Tk hT3 (by decide +kernel)) (by decide +kernel)) H (fun r5 h5 hr5 hs5 H => ?_)
  have hT5 := vx_Tsh hT3 hs5
  replace H := H hT5
  refine vx_istore_n (n := 2) (q := 26) (lv' := [some (.ref 625), some (.int (vx_i x1)), some (.int (vx_i r5)), none, none]) (by decide +kernel) rfl ?_
  refine vx_iconst (n := 0) (q := 27) (by decide +kernel) ?_
  refine vx_istore_n (n := 3) (q := 28) (lv' := [some (.ref 625), some (.int (vx_i x1)), some (.int (vx_i r5)), some (.int (vx_i 0)), none]) (by decide +kernel) rfl ?_
  exact H
theorem vg_88_28 {d : Nat} {h : ve_H} {P : ve_H → Prop} {v1 : Int} {v2 : Int} {v3 : Int} {v4 : Option Value} (hT : vx_T 625 672 h) (H : (vx_rI v3) ∧ (((vx_J h 625 75) ≤ v3 → P h) ∧ (v3 < (vx_J h 625 75) → (((vx_J h 625 68) ≠ 0 → P h) ∧ ((vx_J h 625 68) = 0 → vx_W (d + 1) 88 46 [some (.ref 625), some (.int (vx_i v1)), some (.int (vx_i v2)), some (.int (vx_i v3)), some (.int (vx_i 0))] [] h (vx_RV P)))))) : vx_W (d + 1) 88 28 [some (.ref 625), some (.int (vx_i v1)), some (.int (vx_i v2)), some (.int (vx_i v3)), v4] [] h (vx_RV P) := by
  refine vx_iload_n (n := 3) (q := 29) (by decide +kernel) rfl ?_
  refine vx_aload_n (n := 0) (q := 30) (by decide +kernel) rfl ?_
  refine vx_getI (idx := 453) (kd := 9) (s := 75) (fin := false) (q := 33) (by decide +kernel) (vx_Tk hT (by decide +kernel)) ?_
  obtain ⟨k1, H⟩ := H
  refine vx_icmp_ge (off := 79) (q := 36) (t := 112) (by decide +kernel) k1 (vx_rI_J h 625 75) (fun c2 => ?_) (fun c2 => ?_)
  · replace H := H.1 c2
    refine vx_retV (q := 113) (by decide +kernel) ?_
    exact H
  · replace H := H.2 c2
    refine vx_aload_n (n := 0) (q := 37) (by decide +kernel) rfl ?_
    refine vx_getZ (idx := 422) (kd := 9) (s := 68) (fin := false) (q := 40) (by decide +kernel) (vx_Tk hT (by decide +kernel)) ?_
    refine vx_if0_ne (off := 72) (q := 43) (t := 112) (by decide +kernel) (vx_rI_J h 625 68) (fun c3 => ?_) (fun c3 => ?_)
    · replace H := H.1 c3
      refine vx_retV (q := 113) (by decide +kernel) ?_
      exact H
    · replace H := H.2 c3
      refine vx_iconst (n := 0) (q := 44) (by decide +kernel) ?_
      refine vx_istore (n := 4) (q := 46) (lv' := [some (.ref 625), some (.int (vx_i v1)), some (.int (vx_i v2)), some (.int (vx_i v3)), some (.int (vx_i 0))]) (by decide +kernel) rfl ?_
      exact H
theorem vg_88_46 {d : Nat} {h : ve_H} {P : ve_H → Prop} {v1 : Int} {v2 : Int} {v3 : Int} {v4 : Int} (hT : vx_T 625 672 h) (H : (vx_rI v4) ∧ (vx_rI v2) ∧ ((v2 ≤ v4 → (0 ≤ v1 ∧ v1 < 61) ∧ vx_CV d 84 [.ref 625, .int (vx_i (vx_J h 636 v1.toNat))] h (fun h5 => vx_T 625 672 h5 → vx_W (d + 1) 88 28 [some (.ref 625), some (.int (vx_i v1)), some (.int (vx_i v2)), some (.int (vx_i (v3 + 1))), some (.int (vx_i v4))] [] h5 (vx_RV P))) ∧ (v4 < v2 → (0 ≤ v1 ∧ v1 < 61) ∧ ((v4 ≠ (vx_J h 640 v1.toNat) → (0 ≤ ((4 * v3) + v4) ∧ ((4 * v3) + v4) < 810) ∧ (0 ≤ v4 ∧ v4 < 4) ∧ (∀ h10, h10 = vx_sK h 669 v4.toNat (vx_K h 670 ((4 * v3) + v4).toNat) → vx_T 625 672 h10 → vx_W (d + 1) 88 46 [some (.ref 625), some (.int (vx_i v1)), some (.int (vx_i v2)), some (.int (vx_i v3)), some (.int (vx_i (v4 + 1)))] [] h10 (vx_RV P))) ∧ (v4 = (vx_J h 640 v1.toNat) → (0 ≤ v3 ∧ v3 < 202) ∧ (0 ≤ v4 ∧ v4 < 4) ∧ (∀ h13, h13 = vx_sK h 669 v4.toNat (vx_K h 671 v3.toNat) → vx_T 625 672 h13 → vx_W (d + 1) 88 46 [some (.ref 625), some (.int (vx_i v1)), some (.int (vx_i v2)), some (.int (vx_i v3)), some (.int (vx_i (v4 + 1)))] [] h13 (vx_RV P))))))) : vx_W (d + 1) 88 46 [some (.ref 625), some (.int (vx_i v1)), some (.int (vx_i v2)), some (.int (vx_i v3)), some (.int (vx_i v4))] [] h (vx_RV P) := by
  refine vx_iload (n := 4) (q := 48) (by decide +kernel) rfl ?_
  refine vx_iload_n (n := 2) (q := 49) (by decide +kernel) rfl ?_
  obtain ⟨k1, H⟩ := H
  obtain ⟨k2, H⟩ := H
  refine vx_icmp_ge (off := 47) (q := 52) (t := 96) (by decide +kernel) k1 k2 (fun c3 => ?_) (fun c3 => ?_)
  · replace H := H.1 c3
    refine vx_aload_n (n := 0) (q := 97) (by decide +kernel) rfl ?_
    refine vx_aload_n (n := 0) (q := 98) (by decide +kernel) rfl ?_
    refine vx_getR (b := 636) (idx := 41) (kd := 9) (s := 17) (fin := true) (q := 101) (by decide +kernel) (vx_Tk hT (by decide +kernel)) (vx_Tr hT (kd := 9) (by decide +kernel) (by decide +kernel) (by decide +kernel)) ?_
    refine vx_iload_n (n := 1) (q := 102) (by decide +kernel) rfl ?_
    obtain ⟨k4, H⟩ := H
    refine vx_iaload (z := 61) (q := 103) (by decide +kernel) (vx_Tk hT (by decide +kernel)) (vx_Tz hT (by decide +kernel)) (vx_ix k4 (by decide)) ?_
    refine vx_callV (i := .invokevirtual 450) (how := 3) (cm := 84) (np := 2) (q := 106) (args := [.ref 625, .int (vx_i (vx_J h 636 v1.toNat))]) (rest := []) (by decide +kernel) rfl rfl rfl (vx_w2 (w := 2) (ml := 5) rfl (by decide +kernel)) (vx_rcv (kd := 9) (vx_Tk hT (by decide +kernel)) (by decide +kernel)) H (fun h5 hs5 H => ?_)
    have hT5 := vx_Tsh hT hs5
    replace H := H hT5
    refine vx_iinc (n := 3) (m := 1) (x := v3) (q := 109) (lv' := [some (.ref 625), some (.int (vx_i v1)), some (.int (vx_i v2)), some (.int (vx_i (v3 + 1))), some (.int (vx_i v4))]) (by decide +kernel) rfl rfl ?_
    refine vx_goto (off := (-81)) (q := 112) (t := 28) (by decide +kernel) ?_
    exact H
  · replace H := H.2 c3
    refine vx_aload_n (n := 0) (q := 53) (by decide +kernel) rfl ?_
    refine vx_getR (b := 669) (idx := 145) (kd := 9) (s := 74) (fin := true) (q := 56) (by decide +kernel) (vx_Tk hT (by decide +kernel)) (vx_Tr hT (kd := 9) (by decide +kernel) (by decide +kernel) (by decide +kernel)) ?_
    refine vx_iload (n := 4) (q := 58) (by decide +kernel) rfl ?_
    refine vx_iload (n := 4) (q := 60) (by decide +kernel) rfl ?_
    refine vx_aload_n (n := 0) (q := 61) (by decide +kernel) rfl ?_
    refine vx_getR (b := 640) (idx := 53) (kd := 9) (s := 21) (fin := true) (q := 64) (by decide +kernel) (vx_Tk hT (by decide +kernel)) (vx_Tr hT (kd := 9) (by decide +kernel) (by decide +kernel) (by decide +kernel)) ?_
    refine vx_iload_n (n := 1) (q := 65) (by decide +kernel) rfl ?_
    obtain ⟨k6, H⟩ := H
    refine vx_iaload (z := 61) (q := 66) (by decide +kernel) (vx_Tk hT (by decide +kernel)) (vx_Tz hT (by decide +kernel)) (vx_ix k6 (by decide)) ?_
    refine vx_icmp_ne (off := 12) (q := 69) (t := 78) (by decide +kernel) k1 (vx_rI_J h 640 v1.toNat) (fun c7 => ?_) (fun c7 => ?_)
    · replace H := H.1 c7
      refine vx_aload_n (n := 0) (q := 79) (by decide +kernel) rfl ?_
      refine vx_getR (b := 670) (idx := 148) (kd := 9) (s := 76) (fin := true) (q := 82) (by decide +kernel) (vx_Tk hT (by decide +kernel)) (vx_Tr hT (kd := 9) (by decide +kernel) (by decide +kernel) (by decide +kernel)) ?_
      refine vx_iconst (n := 4) (q := 83) (by decide +kernel) ?_
      refine vx_iload_n (n := 3) (q := 84) (by decide +kernel) rfl ?_
      refine vx_imul (q := 85) (by decide +kernel) ?_
      refine vx_iload (n := 4) (q := 87) (by decide +kernel) rfl ?_
      refine vx_iadd (q := 88) (by decide +kernel) ?_
      obtain ⟨k8, H⟩ := H
      refine vx_laload (z := 810) (q := 89) (by decide +kernel) (vx_Tk hT (by decide +kernel)) (vx_Tz hT (by decide +kernel)) (vx_ix k8 (by decide)) ?_
      obtain ⟨k9, H⟩ := H
      refine vx_lastore (z := 4) (q := 90) (by decide +kernel) (vx_Tk hT (by decide +kernel)) (vx_Tz hT (by decide +kernel)) (vx_ix k9 (by decide)) (fun h10 e10 => ?_)
      have hT10 := vx_TK hT e10
      replace H := H h10 e10 hT10
      refine vx_iinc (n := 4) (m := 1) (x := v4) (q := 93) (lv' := [some (.ref 625), some (.int (vx_i v1)), some (.int (vx_i v2)), some (.int (vx_i v3)), some (.int (vx_i (v4 + 1)))]) (by decide +kernel) rfl rfl ?_
      refine vx_goto (off := (-47)) (q := 96) (t := 46) (by decide +kernel) ?_
      exact H
    · replace H := H.2 c7
      refine vx_aload_n (n := 0) (q := 70) (by decide +kernel) rfl ?_
      refine vx_getR (b := 671) (idx := 151) (kd := 9) (s := 77) (fin := true) (q := 73) (by decide +kernel) (vx_Tk hT (by decide +kernel)) (vx_Tr hT (kd := 9) (by decide +kernel) (by decide +kernel) (by decide +kernel)) ?_
      refine vx_iload_n (n := 3) (q := 74) (by decide +kernel) rfl ?_
      obtain ⟨k11, H⟩ := H
      refine vx_laload (z := 202) (q := 75) (by decide +kernel) (vx_Tk hT (by decide +kernel)) (vx_Tz hT (by decide +kernel)) (vx_ix k11 (by decide)) ?_
      refine vx_goto (off := 14) (q := 78) (t := 89) (by decide +kernel) ?_
      obtain ⟨k12, H⟩ := H
      refine vx_lastore (z := 4) (q := 90) (by decide +kernel) (vx_Tk hT (by decide +kernel)) (vx_Tz hT (by decide +kernel)) (vx_ix k12 (by decide)) (fun h13 e13 => ?_)
      have hT13 := vx_TK hT e13
      replace H := H h13 e13 hT13
      refine vx_iinc (n := 4) (m := 1) (x := v4) (q := 93) (lv' := [some (.ref 625), some (.int (vx_i v1)), some (.int (vx_i v2)), some (.int (vx_i v3)), some (.int (vx_i (v4 + 1)))]) (by decide +kernel) rfl rfl ?_
      refine vx_goto (off := (-47)) (q := 96) (t := 46) (by decide +kernel) ?_
      exact H
