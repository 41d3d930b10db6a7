/-! Printed by my own program (wip/whole/gen_seg.py): walks of methods 119-129,131-133 -/
-- RuleHouse$Engine.fits(III)Z
theorem vg_119 {d : Nat} {h : ve_H} {P : Int → ve_H → Prop} {x1 : Int} {x2 : Int} {x3 : Int} (hT : vx_T 1 625 h) (H : vx_W (d + 1) 119 6 [some (.ref 21), some (.int (vx_i x1)), some (.int (vx_i x2)), some (.int (vx_i x3)), some (.int (vx_i x3)), some (.int (vx_i 0)), none, none, none, none, none] [] h (vx_RI P)) : vx_CI (d + 1) 119 [.ref 21, .int (vx_i x1), .int (vx_i x2), .int (vx_i x3)] h P := by
  refine vx_enter (ml := 11) (by decide +kernel) ?_
  show vx_W _ _ 0 [some (.ref 21), some (.int (vx_i x1)), some (.int (vx_i x2)), some (.int (vx_i x3)), none, none, none, none, none, none, none] [] h _
  refine vx_iload_n (n := 3) (q := 1) (by decide +kernel) rfl ?_
  refine vx_istore (n := 4) (q := 3) (lv' := [some (.ref 21), some (.int (vx_i x1)), some (.int (vx_i x2)), some (.int (vx_i x3)), some (.int (vx_i x3)), none, none, none, none, none, none]) (by decide +kernel) rfl ?_
  refine vx_iconst (n := 0) (q := 4) (by decide +kernel) ?_
  refine vx_istore (n := 5) (q := 6) (lv' := [some (.ref 21), some (.int (vx_i x1)), some (.int (vx_i x2)), some (.int (vx_i x3)), some (.int (vx_i x3)), some (.int (vx_i 0)), none, none, none, none, none]) (by decide +kernel) rfl ?_
  exact H
theorem vg_119_6 {d : Nat} {h : ve_H} {P : Int → ve_H → Prop} {v1 : Int} {v2 : Int} {v3 : Int} {v4 : Int} {v5 : Int} {v6 : Option Value} {v8 : Option Value} {v10 : Option Value} (hT : vx_T 1 625 h) (H : (vx_rI v5) ∧ ((4 ≤ v5 → P 1 h) ∧ (v5 < 4 → (∃ b3, ve_R h 21 7 = some b3 ∧ vx_o 1 625 7 b3 ∧ (0 ≤ ((v1 * 4) + v5) ∧ ((v1 * 4) + v5) < 24) ∧ (0 ≤ (((v2 * 5) + 1) + v5) ∧ (((v2 * 5) + 1) + v5) < 1005) ∧ vx_CI d 17 [.long (vx_l (vx_K h (vx_r b3 11) ((v1 * 4) + v5).toNat))] h (fun r6 h6 => vx_T 1 625 h6 → ((r6 = 0 → (((vx_K h (vx_r b3 11) ((v1 * 4) + v5).toNat) = 288230376151711744 → vx_W (d + 1) 119 6 [some (.ref 21), some (.int (vx_i v1)), some (.int (vx_i v2)), some (.int (vx_i v3)), some (.int (vx_i v4)), some (.int (vx_i (v5 + 1))), some (.long (vx_l (vx_K h (vx_r b3 11) ((v1 * 4) + v5).toNat))), none, some (.long (vx_l (vx_K h 26 (((v2 * 5) + 1) + v5).toNat))), none, v10] [] h6 (vx_RI P)) ∧ ((vx_K h (vx_r b3 11) ((v1 * 4) + v5).toNat) ≠ 288230376151711744 → (((vx_K h (vx_r b3 11) ((v1 * 4) + v5).toNat) = (vx_K h 26 (((v2 * 5) + 1) + v5).toNat) → vx_W (d + 1) 119 6 [some (.ref 21), some (.int (vx_i v1)), some (.int (vx_i v2)), some (.int (vx_i v3)), some (.int (vx_i v4)), some (.int (vx_i (v5 + 1))), some (.long (vx_l (vx_K h (vx_r b3 11) ((v1 * 4) + v5).toNat))), none, some (.long (vx_l (vx_K h 26 (((v2 * 5) + 1) + v5).toNat))), none, v10] [] h6 (vx_RI P)) ∧ ((vx_K h (vx_r b3 11) ((v1 * 4) + v5).toNat) ≠ (vx_K h 26 (((v2 * 5) + 1) + v5).toNat) → P 0 h6))))) ∧ (r6 ≠ 0 → (((vx_and v4 (vx_shl 1 ((vx_K h (vx_r b3 11) ((v1 * 4) + v5).toNat) - 144115188075855872))) ≠ 0 → (0 ≤ ((vx_K h (vx_r b3 11) ((v1 * 4) + v5).toNat) - 144115188075855872) ∧ ((vx_K h (vx_r b3 11) ((v1 * 4) + v5).toNat) - 144115188075855872) < 8) ∧ (((vx_K h6 31 ((vx_K h (vx_r b3 11) ((v1 * 4) + v5).toNat) - 144115188075855872).toNat) = (vx_K h 26 (((v2 * 5) + 1) + v5).toNat) → vx_W (d + 1) 119 6 [some (.ref 21), some (.int (vx_i v1)), some (.int (vx_i v2)), some (.int (vx_i v3)), some (.int (vx_i v4)), some (.int (vx_i (v5 + 1))), some (.long (vx_l (vx_K h (vx_r b3 11) ((v1 * 4) + v5).toNat))), none, some (.long (vx_l (vx_K h 26 (((v2 * 5) + 1) + v5).toNat))), none, some (.int (vx_i ((vx_K h (vx_r b3 11) ((v1 * 4) + v5).toNat) - 144115188075855872)))] [] h6 (vx_RI P)) ∧ ((vx_K h6 31 ((vx_K h (vx_r b3 11) ((v1 * 4) + v5).toNat) - 144115188075855872).toNat) ≠ (vx_K h 26 (((v2 * 5) + 1) + v5).toNat) → P 0 h6))) ∧ ((vx_and v4 (vx_shl 1 ((vx_K h (vx_r b3 11) ((v1 * 4) + v5).toNat) - 144115188075855872))) = 0 → (0 ≤ ((vx_K h (vx_r b3 11) ((v1 * 4) + v5).toNat) - 144115188075855872) ∧ ((vx_K h (vx_r b3 11) ((v1 * 4) + v5).toNat) - 144115188075855872) < 8) ∧ (∀ h14, h14 = vx_sK h6 31 ((vx_K h (vx_r b3 11) ((v1 * 4) + v5).toNat) - 144115188075855872).toNat (vx_K h 26 (((v2 * 5) + 1) + v5).toNat) → vx_T 1 625 h14 → vx_W (d + 1) 119 6 [some (.ref 21), some (.int (vx_i v1)), some (.int (vx_i v2)), some (.int (vx_i v3)), some (.int (vx_i (vx_or v4 (vx_shl 1 ((vx_K h (vx_r b3 11) ((v1 * 4) + v5).toNat) - 144115188075855872))))), some (.int (vx_i (v5 + 1))), some (.long (vx_l (vx_K h (vx_r b3 11) ((v1 * 4) + v5).toNat))), none, some (.long (vx_l (vx_K h 26 (((v2 * 5) + 1) + v5).toNat))), none, some (.int (vx_i ((vx_K h (vx_r b3 11) ((v1 * 4) + v5).toNat) - 144115188075855872)))] [] h14 (vx_RI P))))))))))) : vx_W (d + 1) 119 6 [some (.ref 21), some (.int (vx_i v1)), some (.int (vx_i v2)), some (.int (vx_i v3)), some (.int (vx_i v4)), some (.int (vx_i v5)), v6, none, v8, none, v10] [] h (vx_RI P) := by
  refine vx_iload (n := 5) (q := 8) (by decide +kernel) rfl ?_
  refine vx_iconst (n := 4) (q := 9) (by decide +kernel) ?_
  obtain ⟨k1, H⟩ := H
  refine vx_icmp_ge (off := 131) (q := 12) (t := 140) (by decide +kernel) k1 (by decide) (fun c2 => ?_) (fun c2 => ?_)
  · replace H := H.1 c2
    refine vx_iconst (n := 1) (q := 141) (by decide +kernel) ?_
    refine vx_retZ (q := 142) (by decide +kernel) (Or.inr rfl) ?_
    exact H
  · replace H := H.2 c2
    refine vx_aload_n (n := 0) (q := 13) (by decide +kernel) rfl ?_
    obtain ⟨b3, eb3, ob3, H⟩ := H
    refine vx_getR (b := b3) (idx := 109) (kd := 4) (s := 7) (fin := false) (q := 16) (by decide +kernel) (vx_Tk hT (by decide +kernel)) eb3 ?_
    refine vx_getR (b := vx_r b3 11) (idx := 236) (kd := 7) (s := 11) (fin := true) (q := 19) (by decide +kernel) (vx_Tk hT ob3) (vx_Tr hT (kd := 7) ob3 (by decide +kernel) (vx_f7_11 ob3).1) ?_
    refine vx_iload_n (n := 1) (q := 20) (by decide +kernel) rfl ?_
    refine vx_iconst (n := 4) (q := 21) (by decide +kernel) ?_
    refine vx_imul (q := 22) (by decide +kernel) ?_
    refine vx_iload (n := 5) (q := 24) (by decide +kernel) rfl ?_
    refine vx_iadd (q := 25) (by decide +kernel) ?_
    obtain ⟨k4, H⟩ := H
    refine vx_laload (z := 24) (q := 26) (by decide +kernel) (vx_Tk hT (vx_f7_11 ob3).2.1) (vx_Tz hT ⟨(vx_f7_11 ob3).2.1.1, (vx_f7_11 ob3).2.2⟩) (vx_ix k4 (by decide)) ?_
    refine vx_lstore (n := 6) (q := 28) (lv' := [some (.ref 21), some (.int (vx_i v1)), some (.int (vx_i v2)), some (.int (vx_i v3)), some (.int (vx_i v4)), some (.int (vx_i v5)), some (.long (vx_l (vx_K h (vx_r b3 11) ((v1 * 4) + v5).toNat))), none, v8, none, v10]) (by decide +kernel) rfl ?_
    refine vx_aload_n (n := 0) (q := 29) (by decide +kernel) rfl ?_
    refine vx_getR (b := 22) (idx := 12) (kd := 4) (s := 0) (fin := true) (q := 32) (by decide +kernel) (vx_Tk hT (by decide +kernel)) (vx_Tr hT (kd := 4) (by decide +kernel) (by decide +kernel) (by decide +kernel)) ?_
    refine vx_getR (b := 23) (idx := 63) (kd := 8) (s := 0) (fin := true) (q := 35) (by decide +kernel) (vx_Tk hT (by decide +kernel)) (vx_Tr hT (kd := 8) (by decide +kernel) (by decide +kernel) (by decide +kernel)) ?_
    refine vx_getR (b := 26) (idx := 89) (kd := 6) (s := 1) (fin := true) (q := 38) (by decide +kernel) (vx_Tk hT (by decide +kernel)) (vx_Tr hT (kd := 6) (by decide +kernel) (by decide +kernel) (by decide +kernel)) ?_
    refine vx_iload_n (n := 2) (q := 39) (by decide +kernel) rfl ?_
    refine vx_iconst (n := 5) (q := 40) (by decide +kernel) ?_
    refine vx_imul (q := 41) (by decide +kernel) ?_
    refine vx_iconst (n := 1) (q := 42) (by decide +kernel) ?_
    refine vx_iadd (q := 43) (by decide +kernel) ?_
    refine vx_iload (n := 5) (q := 45) (by decide +kernel) rfl ?_
    refine vx_iadd (q := 46) (by decide +kernel) ?_
    obtain ⟨k5, H⟩ := H
    refine vx_laload (z := 1005) (q := 47) (by decide +kernel) (vx_Tk hT (by decide +kernel)) (vx_Tz hT (by decide +kernel)) (vx_ix k5 (by decide)) ?_
    refine vx_lstore (n := 8) (q := 49) (lv' := [some (.ref 21), some (.int (vx_i v1)), some (.int (vx_i v2)), some (.int (vx_i v3)), some (.int (vx_i v4)), some (.int (vx_i v5)), some (.long (vx_l (vx_K h (vx_r b3 11) ((v1 * 4) + v5).toNat))), none, some (.long (vx_l (vx_K h 26 (((v2 * 5) + 1) + v5).toNat))), none, v10]) (by decide +kernel) rfl ?_
    refine vx_lload (n := 6) (q := 51) (by decide +kernel) rfl ?_
    refine vx_callI (i := .invokestatic 239) (how := 14) (cm := 17) (np := 1) (q := 54) (args := [.long (vx_l (vx_K h (vx_r b3 11) ((v1 * 4) + v5).toNat))]) (rest := []) (by decide +kernel) rfl rfl rfl (vx_w2 (w := 2) (ml := 2) rfl (by decide +kernel)) rfl H (fun r6 h6 hr6 hs6 H => ?_)
    have hT6 := vx_Tsh hT hs6
    replace H := H hT6
    refine vx_if0_eq (off := 61) (q := 57) (t := 115) (by decide +kernel) hr6 (fun c7 => ?_) (fun c7 => ?_)
    · replace H := H.1 c7
      refine vx_lload (n := 6) (q := 117) (by decide +kernel) rfl ?_
      refine vx_ldc (idx := 244) (v := 288230376151711744) (m := 288230376151711744) (q := 120) (by decide +kernel) ?_
      refine vx_lc_eq (off := 13) (p := 121) (q := 124) (t := 134) (by decide +kernel) (vx_rL_K h (vx_r b3 11) ((v1 * 4) + v5).toNat) (by decide) (fun c8 => ?_) (fun c8 => ?_)
      · replace H := H.1 c8
        refine vx_iinc (n := 5) (m := 1) (x := v5) (q := 137) (lv' := [some (.ref 21), some (.int (vx_i v1)), some (.int (vx_i v2)), some (.int (vx_i v3)), some (.int (vx_i v4)), some (.int (vx_i (v5 + 1))), some (.long (vx_l (vx_K h (vx_r b3 11) ((v1 * 4) + v5).toNat))), none, some (.long (vx_l (vx_K h 26 (((v2 * 5) + 1) + v5).toNat))), none, v10]) (by decide +kernel) rfl rfl ?_
        refine vx_goto (off := (-131)) (q := 140) (t := 6) (by decide +kernel) ?_
        exact H
      · replace H := H.2 c8
        refine vx_lload (n := 6) (q := 126) (by decide +kernel) rfl ?_
        refine vx_lload (n := 8) (q := 128) (by decide +kernel) rfl ?_
        refine vx_lc_eq (off := 5) (p := 129) (q := 132) (t := 134) (by decide +kernel) (vx_rL_K h (vx_r b3 11) ((v1 * 4) + v5).toNat) (vx_rL_K h 26 (((v2 * 5) + 1) + v5).toNat) (fun c9 => ?_) (fun c9 => ?_)
        · replace H := H.1 c9
          refine vx_iinc (n := 5) (m := 1) (x := v5) (q := 137) (lv' := [some (.ref 21), some (.int (vx_i v1)), some (.int (vx_i v2)), some (.int (vx_i v3)), some (.int (vx_i v4)), some (.int (vx_i (v5 + 1))), some (.long (vx_l (vx_K h (vx_r b3 11) ((v1 * 4) + v5).toNat))), none, some (.long (vx_l (vx_K h 26 (((v2 * 5) + 1) + v5).toNat))), none, v10]) (by decide +kernel) rfl rfl ?_
          refine vx_goto (off := (-131)) (q := 140) (t := 6) (by decide +kernel) ?_
          exact H
        · replace H := H.2 c9
          refine vx_iconst (n := 0) (q := 133) (by decide +kernel) ?_
          refine vx_retZ (q := 134) (by decide +kernel) (Or.inl rfl) ?_
          exact H
    · replace H := H.2 c7
      refine vx_lload (n := 6) (q := 59) (by decide +kernel) rfl ?_
      refine vx_ldc (idx := 242) (v := 144115188075855872) (m := 144115188075855872) (q := 62) (by decide +kernel) ?_
      refine vx_lsub (q := 63) (by decide +kernel) ?_
      refine vx_l2i (q := 64) (by decide +kernel) ?_
      refine vx_istore (n := 10) (q := 66) (lv' := [some (.ref 21), some (.int (vx_i v1)), some (.int (vx_i v2)), some (.int (vx_i v3)), some (.int (vx_i v4)), some (.int (vx_i v5)), some (.long (vx_l (vx_K h (vx_r b3 11) ((v1 * 4) + v5).toNat))), none, some (.long (vx_l (vx_K h 26 (((v2 * 5) + 1) + v5).toNat))), none, some (.int (vx_i ((vx_K h (vx_r b3 11) ((v1 * 4) + v5).toNat) - 144115188075855872)))]) (by decide +kernel) rfl ?_
      refine vx_iload (n := 4) (q := 68) (by decide +kernel) rfl ?_
      refine vx_iconst (n := 1) (q := 69) (by decide +kernel) ?_
      refine vx_iload (n := 10) (q := 71) (by decide +kernel) rfl ?_
      refine vx_ishl (q := 72) (by decide +kernel) ?_
      refine vx_iand (q := 73) (by decide +kernel) ?_
      refine vx_if0_ne (off := 24) (q := 76) (t := 97) (by decide +kernel) (vx_rI_toInt _) (fun c10 => ?_) (fun c10 => ?_)
      · replace H := H.1 c10
        refine vx_aload_n (n := 0) (q := 98) (by decide +kernel) rfl ?_
        refine vx_getR (b := 31) (idx := 18) (kd := 4) (s := 1) (fin := true) (q := 101) (by decide +kernel) (vx_Tk hT6 (by decide +kernel)) (vx_Tr hT6 (kd := 4) (by decide +kernel) (by decide +kernel) (by decide +kernel)) ?_
        refine vx_iload (n := 10) (q := 103) (by decide +kernel) rfl ?_
        obtain ⟨k11, H⟩ := H
        refine vx_laload (z := 8) (q := 104) (by decide +kernel) (vx_Tk hT6 (by decide +kernel)) (vx_Tz hT6 (by decide +kernel)) (vx_ix k11 (by decide)) ?_
        refine vx_lload (n := 8) (q := 106) (by decide +kernel) rfl ?_
        refine vx_lc_eq (off := 5) (p := 107) (q := 110) (t := 112) (by decide +kernel) (vx_rL_K h6 31 ((vx_K h (vx_r b3 11) ((v1 * 4) + v5).toNat) - 144115188075855872).toNat) (vx_rL_K h 26 (((v2 * 5) + 1) + v5).toNat) (fun c12 => ?_) (fun c12 => ?_)
        · replace H := H.1 c12
          refine vx_goto (off := 22) (q := 115) (t := 134) (by decide +kernel) ?_
          refine vx_iinc (n := 5) (m := 1) (x := v5) (q := 137) (lv' := [some (.ref 21), some (.int (vx_i v1)), some (.int (vx_i v2)), some (.int (vx_i v3)), some (.int (vx_i v4)), some (.int (vx_i (v5 + 1))), some (.long (vx_l (vx_K h (vx_r b3 11) ((v1 * 4) + v5).toNat))), none, some (.long (vx_l (vx_K h 26 (((v2 * 5) + 1) + v5).toNat))), none, some (.int (vx_i ((vx_K h (vx_r b3 11) ((v1 * 4) + v5).toNat) - 144115188075855872)))]) (by decide +kernel) rfl rfl ?_
          refine vx_goto (off := (-131)) (q := 140) (t := 6) (by decide +kernel) ?_
          exact H
        · replace H := H.2 c12
          refine vx_iconst (n := 0) (q := 111) (by decide +kernel) ?_
          refine vx_retZ (q := 112) (by decide +kernel) (Or.inl rfl) ?_
          exact H
      · replace H := H.2 c10
        refine vx_aload_n (n := 0) (q := 77) (by decide +kernel) rfl ?_
        refine vx_getR (b := 31) (idx := 18) (kd := 4) (s := 1) (fin := true) (q := 80) (by decide +kernel) (vx_Tk hT6 (by decide +kernel)) (vx_Tr hT6 (kd := 4) (by decide +kernel) (by decide +kernel) (by decide +kernel)) ?_
        refine vx_iload (n := 10) (q := 82) (by decide +kernel) rfl ?_
        refine vx_lload (n := 8) (q := 84) (by decide +kernel) rfl ?_
        obtain ⟨k13, H⟩ := H
        refine vx_lastore (z := 8) (q := 85) (by decide +kernel) (vx_Tk hT6 (by decide +kernel)) (vx_Tz hT6 (by decide +kernel)) (vx_ix k13 (by decide)) (fun h14 e14 => ?_)
        have hT14 := vx_TK hT6 e14
        replace H := H h14 e14 hT14
        refine vx_iload (n := 4) (q := 87) (by decide +kernel) rfl ?_
        refine vx_iconst (n := 1) (q := 88) (by decide +kernel) ?_
        refine vx_iload (n := 10) (q := 90) (by decide +kernel) rfl ?_
        refine vx_ishl (q := 91) (by decide +kernel) ?_
        refine vx_ior (q := 92) (by decide +kernel) ?_
        refine vx_istore (n := 4) (q := 94) (lv' := [some (.ref 21), some (.int (vx_i v1)), some (.int (vx_i v2)), some (.int (vx_i v3)), some (.int (vx_i (vx_or v4 (vx_shl 1 ((vx_K h (vx_r b3 11) ((v1 * 4) + v5).toNat) - 144115188075855872))))), some (.int (vx_i v5)), some (.long (vx_l (vx_K h (vx_r b3 11) ((v1 * 4) + v5).toNat))), none, some (.long (vx_l (vx_K h 26 (((v2 * 5) + 1) + v5).toNat))), none, some (.int (vx_i ((vx_K h (vx_r b3 11) ((v1 * 4) + v5).toNat) - 144115188075855872)))]) (by decide +kernel) rfl ?_
        refine vx_goto (off := 18) (q := 97) (t := 112) (by decide +kernel) ?_
        refine vx_goto (off := 22) (q := 115) (t := 134) (by decide +kernel) ?_
        refine vx_iinc (n := 5) (m := 1) (x := v5) (q := 137) (lv' := [some (.ref 21), some (.int (vx_i v1)), some (.int (vx_i v2)), some (.int (vx_i v3)), some (.int (vx_i (vx_or v4 (vx_shl 1 ((vx_K h (vx_r b3 11) ((v1 * 4) + v5).toNat) - 144115188075855872))))), some (.int (vx_i (v5 + 1))), some (.long (vx_l (vx_K h (vx_r b3 11) ((v1 * 4) + v5).toNat))), none, some (.long (vx_l (vx_K h 26 (((v2 * 5) + 1) + v5).toNat))), none, some (.int (vx_i ((vx_K h (vx_r b3 11) ((v1 * 4) + v5).toNat) - 144115188075855872)))]) (by decide +kernel) rfl rfl ?_
        refine vx_goto (off := (-131)) (q := 140) (t := 6) (by decide +kernel) ?_
        exact H
-- RuleHouse$Engine.holds(II)Z
theorem vg_120 {d : Nat} {h : ve_H} {P : Int → ve_H → Prop} {x1 : Int} {x2 : Int} (hT : vx_T 1 625 h) (H : (∃ b1, ve_R h 21 7 = some b1 ∧ vx_o 1 625 7 b1 ∧ (0 ≤ x1 ∧ x1 < 6) ∧ (((vx_J h (vx_r b1 8) x1.toNat) = 5 → vx_CI d 123 [.ref 21, .int (vx_i x1), .int (vx_i x2)] h (fun r4 h4 => vx_T 1 625 h4 → (r4 = 0 ∨ r4 = 1) ∧ P r4 h4)) ∧ ((vx_J h (vx_r b1 8) x1.toNat) = 61 → (0 ≤ (x1 * 4) ∧ (x1 * 4) < 24) ∧ vx_CI d 128 [.long (vx_l (vx_K h (vx_r b1 11) (x1 * 4).toNat)), .int (vx_i x2)] h (fun r7 h7 => vx_T 1 625 h7 → ((r7 = 0 → (∃ b9, ve_R h7 21 7 = some b9 ∧ vx_o 1 625 7 b9 ∧ (0 ≤ ((x1 * 4) + 1) ∧ ((x1 * 4) + 1) < 24) ∧ (0 ≤ (x1 * 4) ∧ (x1 * 4) < 24) ∧ vx_CL d 127 [.ref 21, .long (vx_l (vx_K h7 (vx_r b9 11) (x1 * 4).toNat))] h7 (fun r12 h12 => vx_T 1 625 h12 → vx_CI d 125 [.ref 21, .long (vx_l (vx_K h7 (vx_r b9 11) ((x1 * 4) + 1).toNat)), .long (vx_l r12), .int (vx_i x2)] h12 (fun r13 h13 => vx_T 1 625 h13 → (r13 = 0 ∨ r13 = 1) ∧ P r13 h13)))) ∧ (r7 ≠ 0 → (∃ b15, ve_R h7 21 7 = some b15 ∧ vx_o 1 625 7 b15 ∧ (0 ≤ (x1 * 4) ∧ (x1 * 4) < 24) ∧ (0 ≤ ((x1 * 4) + 1) ∧ ((x1 * 4) + 1) < 24) ∧ vx_CL d 127 [.ref 21, .long (vx_l (vx_K h7 (vx_r b15 11) ((x1 * 4) + 1).toNat))] h7 (fun r18 h18 => vx_T 1 625 h18 → vx_CI d 125 [.ref 21, .long (vx_l (vx_K h7 (vx_r b15 11) (x1 * 4).toNat)), .long (vx_l r18), .int (vx_i x2)] h18 (fun r19 h19 => vx_T 1 625 h19 → (r19 = 0 ∨ r19 = 1) ∧ P r19 h19))))))) ∧ ((vx_J h (vx_r b1 8) x1.toNat) ≠ 5 ∧ (vx_J h (vx_r b1 8) x1.toNat) ≠ 61 ∧ True → vx_CI d 126 [.ref 21, .int (vx_i x1)] h (fun r21 h21 => vx_T 1 625 h21 → (r21 = 0 ∨ r21 = 1) ∧ P r21 h21))))) : vx_CI (d + 1) 120 [.ref 21, .int (vx_i x1), .int (vx_i x2)] h P := by
  refine vx_enter (ml := 4) (by decide +kernel) ?_
  show vx_W _ _ 0 [some (.ref 21), some (.int (vx_i x1)), some (.int (vx_i x2)), none] [] h _
  refine vx_iload_n (n := 1) (q := 1) (by decide +kernel) rfl ?_
  refine vx_iconst (n := 4) (q := 2) (by decide +kernel) ?_
  refine vx_imul (q := 3) (by decide +kernel) ?_
  refine vx_istore_n (n := 3) (q := 4) (lv' := [some (.ref 21), some (.int (vx_i x1)), some (.int (vx_i x2)), some (.int (vx_i (x1 * 4)))]) (by decide +kernel) rfl ?_
  refine vx_aload_n (n := 0) (q := 5) (by decide +kernel) rfl ?_
  obtain ⟨b1, eb1, ob1, H⟩ := H
  refine vx_getR (b := b1) (idx := 109) (kd := 4) (s := 7) (fin := false) (q := 8) (by decide +kernel) (vx_Tk hT (by decide +kernel)) eb1 ?_
  refine vx_getR (b := vx_r b1 8) (idx := 124) (kd := 7) (s := 8) (fin := true) (q := 11) (by decide +kernel) (vx_Tk hT ob1) (vx_Tr hT (kd := 7) ob1 (by decide +kernel) (vx_f7_8 ob1).1) ?_
  refine vx_iload_n (n := 1) (q := 12) (by decide +kernel) rfl ?_
  obtain ⟨k2, H⟩ := H
  refine vx_iaload (z := 6) (q := 13) (by decide +kernel) (vx_Tk hT (vx_f7_8 ob1).2.1) (vx_Tz hT ⟨(vx_f7_8 ob1).2.1.1, (vx_f7_8 ob1).2.2⟩) (vx_ix k2 (by decide)) ?_
  refine vx_lsw (dd := 110) (ps := #[(5, 27), (61, 34)]) (tl := [(5, 40), (61, 47)]) (td := 123) (q := 40) (by decide +kernel) (vx_rI_J h (vx_r b1 8) x1.toNat) ⟨fun c3 => ?_, fun c3 => ?_, trivial⟩ (fun c3 => ?_)
  · replace H := H.1 c3
    refine vx_aload_n (n := 0) (q := 41) (by decide +kernel) rfl ?_
    refine vx_iload_n (n := 1) (q := 42) (by decide +kernel) rfl ?_
    refine vx_iload_n (n := 2) (q := 43) (by decide +kernel) rfl ?_
    refine vx_callI (i := .invokevirtual 246) (how := 3) (cm := 123) (np := 3) (q := 46) (args := [.ref 21, .int (vx_i x1), .int (vx_i x2)]) (rest := []) (by decide +kernel) rfl rfl rfl (vx_w2 (w := 3) (ml := 11) rfl (by decide +kernel)) (vx_rcv (kd := 4) (vx_Tk hT (by decide +kernel)) (by decide +kernel)) H (fun r4 h4 hr4 hs4 H => ?_)
    have hT4 := vx_Tsh hT hs4
    replace H := H hT4
    obtain ⟨k5, H⟩ := H
    refine vx_retZ (q := 47) (by decide +kernel) k5 ?_
    exact H
  · replace H := H.2.1 c3
    refine vx_aload_n (n := 0) (q := 48) (by decide +kernel) rfl ?_
    refine vx_getR (b := b1) (idx := 109) (kd := 4) (s := 7) (fin := false) (q := 51) (by decide +kernel) (vx_Tk hT (by decide +kernel)) eb1 ?_
    refine vx_getR (b := vx_r b1 11) (idx := 236) (kd := 7) (s := 11) (fin := true) (q := 54) (by decide +kernel) (vx_Tk hT ob1) (vx_Tr hT (kd := 7) ob1 (by decide +kernel) (vx_f7_11 ob1).1) ?_
    refine vx_iload_n (n := 3) (q := 55) (by decide +kernel) rfl ?_
    obtain ⟨k6, H⟩ := H
    refine vx_laload (z := 24) (q := 56) (by decide +kernel) (vx_Tk hT (vx_f7_11 ob1).2.1) (vx_Tz hT ⟨(vx_f7_11 ob1).2.1.1, (vx_f7_11 ob1).2.2⟩) (vx_ix k6 (by decide)) ?_
    refine vx_iload_n (n := 2) (q := 57) (by decide +kernel) rfl ?_
    refine vx_callI (i := .invokestatic 249) (how := 4) (cm := 128) (np := 2) (q := 60) (args := [.long (vx_l (vx_K h (vx_r b1 11) (x1 * 4).toNat)), .int (vx_i x2)]) (rest := []) (by decide +kernel) rfl rfl rfl (vx_w2 (w := 3) (ml := 3) rfl (by decide +kernel)) rfl H (fun r7 h7 hr7 hs7 H => ?_)
    have hT7 := vx_Tsh hT hs7
    replace H := H hT7
    refine vx_if0_eq (off := 33) (q := 63) (t := 93) (by decide +kernel) hr7 (fun c8 => ?_) (fun c8 => ?_)
    · replace H := H.1 c8
      refine vx_aload_n (n := 0) (q := 94) (by decide +kernel) rfl ?_
      refine vx_aload_n (n := 0) (q := 95) (by decide +kernel) rfl ?_
      obtain ⟨b9, eb9, ob9, H⟩ := H
      refine vx_getR (b := b9) (idx := 109) (kd := 4) (s := 7) (fin := false) (q := 98) (by decide +kernel) (vx_Tk hT7 (by decide +kernel)) eb9 ?_
      refine vx_getR (b := vx_r b9 11) (idx := 236) (kd := 7) (s := 11) (fin := true) (q := 101) (by decide +kernel) (vx_Tk hT7 ob9) (vx_Tr hT7 (kd := 7) ob9 (by decide +kernel) (vx_f7_11 ob9).1) ?_
      refine vx_iload_n (n := 3) (q := 102) (by decide +kernel) rfl ?_
      refine vx_iconst (n := 1) (q := 103) (by decide +kernel) ?_
      refine vx_iadd (q := 104) (by decide +kernel) ?_
      obtain ⟨k10, H⟩ := H
      refine vx_laload (z := 24) (q := 105) (by decide +kernel) (vx_Tk hT7 (vx_f7_11 ob9).2.1) (vx_Tz hT7 ⟨(vx_f7_11 ob9).2.1.1, (vx_f7_11 ob9).2.2⟩) (vx_ix k10 (by decide)) ?_
      refine vx_aload_n (n := 0) (q := 106) (by decide +kernel) rfl ?_
      refine vx_aload_n (n := 0) (q := 107) (by decide +kernel) rfl ?_
      refine vx_getR (b := b9) (idx := 109) (kd := 4) (s := 7) (fin := false) (q := 110) (by decide +kernel) (vx_Tk hT7 (by decide +kernel)) eb9 ?_
      refine vx_getR (b := vx_r b9 11) (idx := 236) (kd := 7) (s := 11) (fin := true) (q := 113) (by decide +kernel) (vx_Tk hT7 ob9) (vx_Tr hT7 (kd := 7) ob9 (by decide +kernel) (vx_f7_11 ob9).1) ?_
      refine vx_iload_n (n := 3) (q := 114) (by decide +kernel) rfl ?_
      obtain ⟨k11, H⟩ := H
      refine vx_laload (z := 24) (q := 115) (by decide +kernel) (vx_Tk hT7 (vx_f7_11 ob9).2.1) (vx_Tz hT7 ⟨(vx_f7_11 ob9).2.1.1, (vx_f7_11 ob9).2.2⟩) (vx_ix k11 (by decide)) ?_
      refine vx_callL (i := .invokevirtual 197) (how := 3) (cm := 127) (np := 2) (q := 118) (args := [.ref 21, .long (vx_l (vx_K h7 (vx_r b9 11) (x1 * 4).toNat))]) (rest := [.long (vx_l (vx_K h7 (vx_r b9 11) ((x1 * 4) + 1).toNat)), .ref 21]) (by decide +kernel) rfl rfl rfl (vx_w2 (w := 3) (ml := 3) rfl (by decide +kernel)) (vx_rcv (kd := 4) (vx_Tk hT7 (by decide +kernel)) (by decide +kernel)) H (fun r12 h12 hr12 hs12 H => ?_)
      have hT12 := vx_Tsh hT7 hs12
      replace H := H hT12
      refine vx_iload_n (n := 2) (q := 119) (by decide +kernel) rfl ?_
      refine vx_callI (i := .invokevirtual 253) (how := 3) (cm := 125) (np := 4) (q := 122) (args := [.ref 21, .long (vx_l (vx_K h7 (vx_r b9 11) ((x1 * 4) + 1).toNat)), .long (vx_l r12), .int (vx_i x2)]) (rest := []) (by decide +kernel) rfl rfl rfl (vx_w2 (w := 6) (ml := 6) rfl (by decide +kernel)) (vx_rcv (kd := 4) (vx_Tk hT12 (by decide +kernel)) (by decide +kernel)) H (fun r13 h13 hr13 hs13 H => ?_)
      have hT13 := vx_Tsh hT12 hs13
      replace H := H hT13
      obtain ⟨k14, H⟩ := H
      refine vx_retZ (q := 123) (by decide +kernel) k14 ?_
      exact H
    · replace H := H.2 c8
      refine vx_aload_n (n := 0) (q := 64) (by decide +kernel) rfl ?_
      refine vx_aload_n (n := 0) (q := 65) (by decide +kernel) rfl ?_
      obtain ⟨b15, eb15, ob15, H⟩ := H
      refine vx_getR (b := b15) (idx := 109) (kd := 4) (s := 7) (fin := false) (q := 68) (by decide +kernel) (vx_Tk hT7 (by decide +kernel)) eb15 ?_
      refine vx_getR (b := vx_r b15 11) (idx := 236) (kd := 7) (s := 11) (fin := true) (q := 71) (by decide +kernel) (vx_Tk hT7 ob15) (vx_Tr hT7 (kd := 7) ob15 (by decide +kernel) (vx_f7_11 ob15).1) ?_
      refine vx_iload_n (n := 3) (q := 72) (by decide +kernel) rfl ?_
      obtain ⟨k16, H⟩ := H
      refine vx_laload (z := 24) (q := 73) (by decide +kernel) (vx_Tk hT7 (vx_f7_11 ob15).2.1) (vx_Tz hT7 ⟨(vx_f7_11 ob15).2.1.1, (vx_f7_11 ob15).2.2⟩) (vx_ix k16 (by decide)) ?_
      refine vx_aload_n (n := 0) (q := 74) (by decide +kernel) rfl ?_
      refine vx_aload_n (n := 0) (q := 75) (by decide +kernel) rfl ?_
      refine vx_getR (b := b15) (idx := 109) (kd := 4) (s := 7) (fin := false) (q := 78) (by decide +kernel) (vx_Tk hT7 (by decide +kernel)) eb15 ?_
      refine vx_getR (b := vx_r b15 11) (idx := 236) (kd := 7) (s := 11) (fin := true) (q := 81) (by decide +kernel) (vx_Tk hT7 ob15) (vx_Tr hT7 (kd := 7) ob15 (by decide +kernel) (vx_f7_11 ob15).1) ?_
      refine vx_iload_n (n := 3) (q := 82) (by decide +kernel) rfl ?_
      refine vx_iconst (n := 1) (q := 83) (by decide +kernel) ?_
      refine vx_iadd (q := 84) (by decide +kernel) ?_
      obtain ⟨k17, H⟩ := H
      refine vx_laload (z := 24) (q := 85) (by decide +kernel) (vx_Tk hT7 (vx_f7_11 ob15).2.1) (vx_Tz hT7 ⟨(vx_f7_11 ob15).2.1.1, (vx_f7_11 ob15).2.2⟩) (vx_ix k17 (by decide)) ?_
      refine vx_callL (i := .invokevirtual 197) (how := 3) (cm := 127) (np := 2) (q := 88) (args := [.ref 21, .long (vx_l (vx_K h7 (vx_r b15 11) ((x1 * 4) + 1).toNat))]) (rest := [.long (vx_l (vx_K h7 (vx_r b15 11) (x1 * 4).toNat)), .ref 21]) (by decide +kernel) rfl rfl rfl (vx_w2 (w := 3) (ml := 3) rfl (by decide +kernel)) (vx_rcv (kd := 4) (vx_Tk hT7 (by decide +kernel)) (by decide +kernel)) H (fun r18 h18 hr18 hs18 H => ?_)
      have hT18 := vx_Tsh hT7 hs18
      replace H := H hT18
      refine vx_iload_n (n := 2) (q := 89) (by decide +kernel) rfl ?_
      refine vx_callI (i := .invokevirtual 253) (how := 3) (cm := 125) (np := 4) (q := 92) (args := [.ref 21, .long (vx_l (vx_K h7 (vx_r b15 11) (x1 * 4).toNat)), .long (vx_l r18), .int (vx_i x2)]) (rest := []) (by decide +kernel) rfl rfl rfl (vx_w2 (w := 6) (ml := 6) rfl (by decide +kernel)) (vx_rcv (kd := 4) (vx_Tk hT18 (by decide +kernel)) (by decide +kernel)) H (fun r19 h19 hr19 hs19 H => ?_)
      have hT19 := vx_Tsh hT18 hs19
      replace H := H hT19
      obtain ⟨k20, H⟩ := H
      refine vx_retZ (q := 93) (by decide +kernel) k20 ?_
      exact H
  · replace H := H.2.2 c3
    refine vx_aload_n (n := 0) (q := 124) (by decide +kernel) rfl ?_
    refine vx_iload_n (n := 1) (q := 125) (by decide +kernel) rfl ?_
    refine vx_callI (i := .invokevirtual 257) (how := 3) (cm := 126) (np := 2) (q := 128) (args := [.ref 21, .int (vx_i x1)]) (rest := []) (by decide +kernel) rfl rfl rfl (vx_w2 (w := 2) (ml := 6) rfl (by decide +kernel)) (vx_rcv (kd := 4) (vx_Tk hT (by decide +kernel)) (by decide +kernel)) H (fun r21 h21 hr21 hs21 H => ?_)
    have hT21 := vx_Tsh hT hs21
    replace H := H hT21
    obtain ⟨k22, H⟩ := H
    refine vx_retZ (q := 129) (by decide +kernel) k22 ?_
    exact H
-- RuleHouse$Engine.isThere(II)Z
theorem vg_121 {d : Nat} {h : ve_H} {P : Int → ve_H → Prop} {x1 : Int} {x2 : Int} (hT : vx_T 1 625 h) (H : (∃ b1, ve_R h 21 7 = some b1 ∧ vx_o 1 625 7 b1 ∧ (0 ≤ x2 ∧ x2 < 6) ∧ (((vx_J h (vx_r b1 14) x2.toNat) = 0 → (0 ≤ x1 ∧ x1 < 6) ∧ (0 ≤ (vx_J h (vx_r b1 9) x1.toNat) ∧ (vx_J h (vx_r b1 9) x1.toNat) < 16) ∧ (0 ≤ (vx_J h (vx_r b1 9) x1.toNat) ∧ (vx_J h (vx_r b1 9) x1.toNat) < 16) ∧ vx_W (d + 1) 121 59 [some (.ref 21), some (.int (vx_i x1)), some (.int (vx_i x2)), some (.int (vx_i (vx_J h (vx_r b1 9) x1.toNat))), some (.int (vx_i (vx_J h 29 (vx_J h (vx_r b1 9) x1.toNat).toNat))), some (.int (vx_i (vx_J h 30 (vx_J h (vx_r b1 9) x1.toNat).toNat)))] [] h (vx_RI P)) ∧ ((vx_J h (vx_r b1 14) x2.toNat) ≠ 0 → vx_CI d 122 [.ref 21, .int (vx_i x1)] h (fun r7 h7 => vx_T 1 625 h7 → ((r7 = ((-1)) → P 0 h7) ∧ (r7 ≠ ((-1)) → P 1 h7))))))) : vx_CI (d + 1) 121 [.ref 21, .int (vx_i x1), .int (vx_i x2)] h P := by
  refine vx_enter (ml := 6) (by decide +kernel) ?_
  show vx_W _ _ 0 [some (.ref 21), some (.int (vx_i x1)), some (.int (vx_i x2)), none, none, none] [] h _
  refine vx_aload_n (n := 0) (q := 1) (by decide +kernel) rfl ?_
  obtain ⟨b1, eb1, ob1, H⟩ := H
  refine vx_getR (b := b1) (idx := 109) (kd := 4) (s := 7) (fin := false) (q := 4) (by decide +kernel) (vx_Tk hT (by decide +kernel)) eb1 ?_
  refine vx_getR (b := vx_r b1 14) (idx := 160) (kd := 7) (s := 14) (fin := true) (q := 7) (by decide +kernel) (vx_Tk hT ob1) (vx_Tr hT (kd := 7) ob1 (by decide +kernel) (vx_f7_14 ob1).1) ?_
  refine vx_iload_n (n := 2) (q := 8) (by decide +kernel) rfl ?_
  obtain ⟨k2, H⟩ := H
  refine vx_zaload (z := 6) (q := 9) (by decide +kernel) (vx_Tk hT (vx_f7_14 ob1).2.1) (vx_Tz hT ⟨(vx_f7_14 ob1).2.1.1, (vx_f7_14 ob1).2.2⟩) (vx_ix k2 (by decide)) ?_
  refine vx_if0_eq (off := 18) (q := 12) (t := 27) (by decide +kernel) (vx_rI_J h (vx_r b1 14) x2.toNat) (fun c3 => ?_) (fun c3 => ?_)
  · replace H := H.1 c3
    refine vx_aload_n (n := 0) (q := 28) (by decide +kernel) rfl ?_
    refine vx_getR (b := b1) (idx := 109) (kd := 4) (s := 7) (fin := false) (q := 31) (by decide +kernel) (vx_Tk hT (by decide +kernel)) eb1 ?_
    refine vx_getR (b := vx_r b1 9) (idx := 127) (kd := 7) (s := 9) (fin := true) (q := 34) (by decide +kernel) (vx_Tk hT ob1) (vx_Tr hT (kd := 7) ob1 (by decide +kernel) (vx_f7_9 ob1).1) ?_
    refine vx_iload_n (n := 1) (q := 35) (by decide +kernel) rfl ?_
    obtain ⟨k4, H⟩ := H
    refine vx_iaload (z := 6) (q := 36) (by decide +kernel) (vx_Tk hT (vx_f7_9 ob1).2.1) (vx_Tz hT ⟨(vx_f7_9 ob1).2.1.1, (vx_f7_9 ob1).2.2⟩) (vx_ix k4 (by decide)) ?_
    refine vx_istore_n (n := 3) (q := 37) (lv' := [some (.ref 21), some (.int (vx_i x1)), some (.int (vx_i x2)), some (.int (vx_i (vx_J h (vx_r b1 9) x1.toNat))), none, none]) (by decide +kernel) rfl ?_
    refine vx_aload_n (n := 0) (q := 38) (by decide +kernel) rfl ?_
    refine vx_getR (b := 22) (idx := 12) (kd := 4) (s := 0) (fin := true) (q := 41) (by decide +kernel) (vx_Tk hT (by decide +kernel)) (vx_Tr hT (kd := 4) (by decide +kernel) (by decide +kernel) (by decide +kernel)) ?_
    refine vx_getR (b := 29) (idx := 171) (kd := 8) (s := 3) (fin := true) (q := 44) (by decide +kernel) (vx_Tk hT (by decide +kernel)) (vx_Tr hT (kd := 8) (by decide +kernel) (by decide +kernel) (by decide +kernel)) ?_
    refine vx_iload_n (n := 3) (q := 45) (by decide +kernel) rfl ?_
    obtain ⟨k5, H⟩ := H
    refine vx_iaload (z := 16) (q := 46) (by decide +kernel) (vx_Tk hT (by decide +kernel)) (vx_Tz hT (by decide +kernel)) (vx_ix k5 (by decide)) ?_
    refine vx_istore (n := 4) (q := 48) (lv' := [some (.ref 21), some (.int (vx_i x1)), some (.int (vx_i x2)), some (.int (vx_i (vx_J h (vx_r b1 9) x1.toNat))), some (.int (vx_i (vx_J h 29 (vx_J h (vx_r b1 9) x1.toNat).toNat))), none]) (by decide +kernel) rfl ?_
    refine vx_aload_n (n := 0) (q := 49) (by decide +kernel) rfl ?_
    refine vx_getR (b := 22) (idx := 12) (kd := 4) (s := 0) (fin := true) (q := 52) (by decide +kernel) (vx_Tk hT (by decide +kernel)) (vx_Tr hT (kd := 4) (by decide +kernel) (by decide +kernel) (by decide +kernel)) ?_
    refine vx_getR (b := 30) (idx := 174) (kd := 8) (s := 4) (fin := true) (q := 55) (by decide +kernel) (vx_Tk hT (by decide +kernel)) (vx_Tr hT (kd := 8) (by decide +kernel) (by decide +kernel) (by decide +kernel)) ?_
    refine vx_iload_n (n := 3) (q := 56) (by decide +kernel) rfl ?_
    obtain ⟨k6, H⟩ := H
    refine vx_iaload (z := 16) (q := 57) (by decide +kernel) (vx_Tk hT (by decide +kernel)) (vx_Tz hT (by decide +kernel)) (vx_ix k6 (by decide)) ?_
    refine vx_istore (n := 5) (q := 59) (lv' := [some (.ref 21), some (.int (vx_i x1)), some (.int (vx_i x2)), some (.int (vx_i (vx_J h (vx_r b1 9) x1.toNat))), some (.int (vx_i (vx_J h 29 (vx_J h (vx_r b1 9) x1.toNat).toNat))), some (.int (vx_i (vx_J h 30 (vx_J h (vx_r b1 9) x1.toNat).toNat)))]) (by decide +kernel) rfl ?_
    exact H
  · replace H := H.2 c3
    refine vx_aload_n (n := 0) (q := 13) (by decide +kernel) rfl ?_
    refine vx_iload_n (n := 1) (q := 14) (by decide +kernel) rfl ?_
    refine vx_callI (i := .invokevirtual 164) (how := 3) (cm := 122) (np := 2) (q := 17) (args := [.ref 21, .int (vx_i x1)]) (rest := []) (by decide +kernel) rfl rfl rfl (vx_w2 (w := 2) (ml := 3) rfl (by decide +kernel)) (vx_rcv (kd := 4) (vx_Tk hT (by decide +kernel)) (by decide +kernel)) H (fun r7 h7 hr7 hs7 H => ?_)
    have hT7 := vx_Tsh hT hs7
    replace H := H hT7
    refine vx_iconst (n := (-1)) (q := 18) (by decide +kernel) ?_
    refine vx_icmp_eq (off := 7) (q := 21) (t := 25) (by decide +kernel) hr7 (by decide) (fun c8 => ?_) (fun c8 => ?_)
    · replace H := H.1 c8
      refine vx_iconst (n := 0) (q := 26) (by decide +kernel) ?_
      refine vx_retZ (q := 27) (by decide +kernel) (Or.inl rfl) ?_
      exact H
    · replace H := H.2 c8
      refine vx_iconst (n := 1) (q := 22) (by decide +kernel) ?_
      refine vx_goto (off := 4) (q := 25) (t := 26) (by decide +kernel) ?_
      refine vx_retZ (q := 27) (by decide +kernel) (Or.inr rfl) ?_
      exact H
theorem vg_121_59 {d : Nat} {h : ve_H} {P : Int → ve_H → Prop} {v1 : Int} {v2 : Int} {v3 : Int} {v4 : Int} {v5 : Int} (hT : vx_T 1 625 h) (H : (vx_rI v5) ∧ ((v5 ≤ 0 → P 0 h) ∧ (0 < v5 → (vx_rI v4) ∧ ((v4 = ((-1)) → P 0 h) ∧ (v4 ≠ ((-1)) → (∃ b5, ve_R h 21 7 = some b5 ∧ vx_o 1 625 7 b5 ∧ (0 ≤ v2 ∧ v2 < 6) ∧ vx_CI d 119 [.ref 21, .int (vx_i v1), .int (vx_i v4), .int (vx_i (vx_J h (vx_r b5 13) v2.toNat))] h (fun r7 h7 => vx_T 1 625 h7 → ((r7 = 0 → (0 ≤ v4 ∧ v4 < 201) ∧ vx_W (d + 1) 121 59 [some (.ref 21), some (.int (vx_i v1)), some (.int (vx_i v2)), some (.int (vx_i v3)), some (.int (vx_i (vx_J h7 28 v4.toNat))), some (.int (vx_i (v5 + (-1))))] [] h7 (vx_RI P)) ∧ (r7 ≠ 0 → P 1 h7))))))))) : vx_W (d + 1) 121 59 [some (.ref 21), some (.int (vx_i v1)), some (.int (vx_i v2)), some (.int (vx_i v3)), some (.int (vx_i v4)), some (.int (vx_i v5))] [] h (vx_RI P) := by
  refine vx_iload (n := 5) (q := 61) (by decide +kernel) rfl ?_
  obtain ⟨k1, H⟩ := H
  refine vx_if0_le (off := 48) (q := 64) (t := 109) (by decide +kernel) k1 (fun c2 => ?_) (fun c2 => ?_)
  · replace H := H.1 c2
    refine vx_iconst (n := 0) (q := 110) (by decide +kernel) ?_
    refine vx_retZ (q := 111) (by decide +kernel) (Or.inl rfl) ?_
    exact H
  · replace H := H.2 c2
    refine vx_iload (n := 4) (q := 66) (by decide +kernel) rfl ?_
    refine vx_iconst (n := (-1)) (q := 67) (by decide +kernel) ?_
    obtain ⟨k3, H⟩ := H
    refine vx_icmp_eq (off := 42) (q := 70) (t := 109) (by decide +kernel) k3 (by decide) (fun c4 => ?_) (fun c4 => ?_)
    · replace H := H.1 c4
      refine vx_iconst (n := 0) (q := 110) (by decide +kernel) ?_
      refine vx_retZ (q := 111) (by decide +kernel) (Or.inl rfl) ?_
      exact H
    · replace H := H.2 c4
      refine vx_aload_n (n := 0) (q := 71) (by decide +kernel) rfl ?_
      refine vx_iload_n (n := 1) (q := 72) (by decide +kernel) rfl ?_
      refine vx_iload (n := 4) (q := 74) (by decide +kernel) rfl ?_
      refine vx_aload_n (n := 0) (q := 75) (by decide +kernel) rfl ?_
      obtain ⟨b5, eb5, ob5, H⟩ := H
      refine vx_getR (b := b5) (idx := 109) (kd := 4) (s := 7) (fin := false) (q := 78) (by decide +kernel) (vx_Tk hT (by decide +kernel)) eb5 ?_
      refine vx_getR (b := vx_r b5 13) (idx := 150) (kd := 7) (s := 13) (fin := true) (q := 81) (by decide +kernel) (vx_Tk hT ob5) (vx_Tr hT (kd := 7) ob5 (by decide +kernel) (vx_f7_13 ob5).1) ?_
      refine vx_iload_n (n := 2) (q := 82) (by decide +kernel) rfl ?_
      obtain ⟨k6, H⟩ := H
      refine vx_iaload (z := 6) (q := 83) (by decide +kernel) (vx_Tk hT (vx_f7_13 ob5).2.1) (vx_Tz hT ⟨(vx_f7_13 ob5).2.1.1, (vx_f7_13 ob5).2.2⟩) (vx_ix k6 (by decide)) ?_
      refine vx_callI (i := .invokevirtual 177) (how := 3) (cm := 119) (np := 4) (q := 86) (args := [.ref 21, .int (vx_i v1), .int (vx_i v4), .int (vx_i (vx_J h (vx_r b5 13) v2.toNat))]) (rest := []) (by decide +kernel) rfl rfl rfl (vx_w2 (w := 4) (ml := 11) rfl (by decide +kernel)) (vx_rcv (kd := 4) (vx_Tk hT (by decide +kernel)) (by decide +kernel)) H (fun r7 h7 hr7 hs7 H => ?_)
      have hT7 := vx_Tsh hT hs7
      replace H := H hT7
      refine vx_if0_eq (off := 5) (q := 89) (t := 91) (by decide +kernel) hr7 (fun c8 => ?_) (fun c8 => ?_)
      · replace H := H.1 c8
        refine vx_aload_n (n := 0) (q := 92) (by decide +kernel) rfl ?_
        refine vx_getR (b := 22) (idx := 12) (kd := 4) (s := 0) (fin := true) (q := 95) (by decide +kernel) (vx_Tk hT7 (by decide +kernel)) (vx_Tr hT7 (kd := 4) (by decide +kernel) (by decide +kernel) (by decide +kernel)) ?_
        refine vx_getR (b := 28) (idx := 181) (kd := 8) (s := 2) (fin := true) (q := 98) (by decide +kernel) (vx_Tk hT7 (by decide +kernel)) (vx_Tr hT7 (kd := 8) (by decide +kernel) (by decide +kernel) (by decide +kernel)) ?_
        refine vx_iload (n := 4) (q := 100) (by decide +kernel) rfl ?_
        obtain ⟨k9, H⟩ := H
        refine vx_iaload (z := 201) (q := 101) (by decide +kernel) (vx_Tk hT7 (by decide +kernel)) (vx_Tz hT7 (by decide +kernel)) (vx_ix k9 (by decide)) ?_
        refine vx_istore (n := 4) (q := 103) (lv' := [some (.ref 21), some (.int (vx_i v1)), some (.int (vx_i v2)), some (.int (vx_i v3)), some (.int (vx_i (vx_J h7 28 v4.toNat))), some (.int (vx_i v5))]) (by decide +kernel) rfl ?_
        refine vx_iinc (n := 5) (m := (-1)) (x := v5) (q := 106) (lv' := [some (.ref 21), some (.int (vx_i v1)), some (.int (vx_i v2)), some (.int (vx_i v3)), some (.int (vx_i (vx_J h7 28 v4.toNat))), some (.int (vx_i (v5 + (-1))))]) (by decide +kernel) rfl rfl ?_
        refine vx_goto (off := (-47)) (q := 109) (t := 59) (by decide +kernel) ?_
        exact H
      · replace H := H.2 c8
        refine vx_iconst (n := 1) (q := 90) (by decide +kernel) ?_
        refine vx_retZ (q := 91) (by decide +kernel) (Or.inr rfl) ?_
        exact H
-- RuleHouse$Engine.rowOf(I)I
theorem vg_122 {d : Nat} {h : ve_H} {P : Int → ve_H → Prop} {x1 : Int} (hT : vx_T 1 625 h) (H : (∃ b1, ve_R h 21 7 = some b1 ∧ vx_o 1 625 7 b1 ∧ (0 ≤ x1 ∧ x1 < 6) ∧ (∀ h3, h3 = vx_sK h 33 0 (vx_J h (vx_r b1 9) x1.toNat) → vx_T 1 625 h3 → vx_W (d + 1) 122 18 [some (.ref 21), some (.int (vx_i x1)), some (.int (vx_i 0))] [] h3 (vx_RI P)))) : vx_CI (d + 1) 122 [.ref 21, .int (vx_i x1)] h P := by
  refine vx_enter (ml := 3) (by decide +kernel) ?_
  show vx_W _ _ 0 [some (.ref 21), some (.int (vx_i x1)), none] [] h _
  refine vx_aload_n (n := 0) (q := 1) (by decide +kernel) rfl ?_
  refine vx_getR (b := 33) (idx := 25) (kd := 4) (s := 3) (fin := true) (q := 4) (by decide +kernel) (vx_Tk hT (by decide +kernel)) (vx_Tr hT (kd := 4) (by decide +kernel) (by decide +kernel) (by decide +kernel)) ?_
  refine vx_iconst (n := 0) (q := 5) (by decide +kernel) ?_
  refine vx_aload_n (n := 0) (q := 6) (by decide +kernel) rfl ?_
  obtain ⟨b1, eb1, ob1, H⟩ := H
  refine vx_getR (b := b1) (idx := 109) (kd := 4) (s := 7) (fin := false) (q := 9) (by decide +kernel) (vx_Tk hT (by decide +kernel)) eb1 ?_
  refine vx_getR (b := vx_r b1 9) (idx := 127) (kd := 7) (s := 9) (fin := true) (q := 12) (by decide +kernel) (vx_Tk hT ob1) (vx_Tr hT (kd := 7) ob1 (by decide +kernel) (vx_f7_9 ob1).1) ?_
  refine vx_iload_n (n := 1) (q := 13) (by decide +kernel) rfl ?_
  obtain ⟨k2, H⟩ := H
  refine vx_iaload (z := 6) (q := 14) (by decide +kernel) (vx_Tk hT (vx_f7_9 ob1).2.1) (vx_Tz hT ⟨(vx_f7_9 ob1).2.1.1, (vx_f7_9 ob1).2.2⟩) (vx_ix k2 (by decide)) ?_
  refine vx_i2l (q := 15) (by decide +kernel) (vx_rI_J h (vx_r b1 9) x1.toNat) ?_
  refine vx_lastore (z := 5) (q := 16) (by decide +kernel) (vx_Tk hT (by decide +kernel)) (vx_Tz hT (by decide +kernel)) (by decide) (fun h3 e3 => ?_)
  have hT3 := vx_TK hT e3
  replace H := H h3 e3 hT3
  refine vx_iconst (n := 0) (q := 17) (by decide +kernel) ?_
  refine vx_istore_n (n := 2) (q := 18) (lv' := [some (.ref 21), some (.int (vx_i x1)), some (.int (vx_i 0))]) (by decide +kernel) rfl ?_
  exact H
theorem vg_122_18 {d : Nat} {h : ve_H} {P : Int → ve_H → Prop} {v1 : Int} {v2 : Int} (hT : vx_T 1 625 h) (H : (vx_rI v2) ∧ ((4 ≤ v2 → vx_CI d 173 [.ref 23, .ref 33] h (fun r3 h3 => vx_T 1 625 h3 → P r3 h3)) ∧ (v2 < 4 → (∃ b4, ve_R h 21 7 = some b4 ∧ vx_o 1 625 7 b4 ∧ (0 ≤ ((v1 * 4) + v2) ∧ ((v1 * 4) + v2) < 24) ∧ vx_CL d 127 [.ref 21, .long (vx_l (vx_K h (vx_r b4 11) ((v1 * 4) + v2).toNat))] h (fun r6 h6 => vx_T 1 625 h6 → (0 ≤ (v2 + 1) ∧ (v2 + 1) < 5) ∧ (∀ h8, h8 = vx_sK h6 33 (v2 + 1).toNat r6 → vx_T 1 625 h8 → vx_W (d + 1) 122 18 [some (.ref 21), some (.int (vx_i v1)), some (.int (vx_i (v2 + 1)))] [] h8 (vx_RI P))))))) : vx_W (d + 1) 122 18 [some (.ref 21), some (.int (vx_i v1)), some (.int (vx_i v2))] [] h (vx_RI P) := by
  refine vx_iload_n (n := 2) (q := 19) (by decide +kernel) rfl ?_
  refine vx_iconst (n := 4) (q := 20) (by decide +kernel) ?_
  obtain ⟨k1, H⟩ := H
  refine vx_icmp_ge (off := 34) (q := 23) (t := 54) (by decide +kernel) k1 (by decide) (fun c2 => ?_) (fun c2 => ?_)
  · replace H := H.1 c2
    refine vx_aload_n (n := 0) (q := 55) (by decide +kernel) rfl ?_
    refine vx_getR (b := 22) (idx := 12) (kd := 4) (s := 0) (fin := true) (q := 58) (by decide +kernel) (vx_Tk hT (by decide +kernel)) (vx_Tr hT (kd := 4) (by decide +kernel) (by decide +kernel) (by decide +kernel)) ?_
    refine vx_getR (b := 23) (idx := 63) (kd := 8) (s := 0) (fin := true) (q := 61) (by decide +kernel) (vx_Tk hT (by decide +kernel)) (vx_Tr hT (kd := 8) (by decide +kernel) (by decide +kernel) (by decide +kernel)) ?_
    refine vx_aload_n (n := 0) (q := 62) (by decide +kernel) rfl ?_
    refine vx_getR (b := 33) (idx := 25) (kd := 4) (s := 3) (fin := true) (q := 65) (by decide +kernel) (vx_Tk hT (by decide +kernel)) (vx_Tr hT (kd := 4) (by decide +kernel) (by decide +kernel) (by decide +kernel)) ?_
    refine vx_callI (i := .invokevirtual 187) (how := 3) (cm := 173) (np := 2) (q := 68) (args := [.ref 23, .ref 33]) (rest := []) (by decide +kernel) rfl rfl rfl (vx_w2 (w := 2) (ml := 2) rfl (by decide +kernel)) (vx_rcv (kd := 6) (vx_Tk hT (by decide +kernel)) (by decide +kernel)) H (fun r3 h3 hr3 hs3 H => ?_)
    have hT3 := vx_Tsh hT hs3
    replace H := H hT3
    refine vx_retI (q := 69) (by decide +kernel) hr3 ?_
    exact H
  · replace H := H.2 c2
    refine vx_aload_n (n := 0) (q := 24) (by decide +kernel) rfl ?_
    refine vx_getR (b := 33) (idx := 25) (kd := 4) (s := 3) (fin := true) (q := 27) (by decide +kernel) (vx_Tk hT (by decide +kernel)) (vx_Tr hT (kd := 4) (by decide +kernel) (by decide +kernel) (by decide +kernel)) ?_
    refine vx_iload_n (n := 2) (q := 28) (by decide +kernel) rfl ?_
    refine vx_iconst (n := 1) (q := 29) (by decide +kernel) ?_
    refine vx_iadd (q := 30) (by decide +kernel) ?_
    refine vx_aload_n (n := 0) (q := 31) (by decide +kernel) rfl ?_
    refine vx_aload_n (n := 0) (q := 32) (by decide +kernel) rfl ?_
    obtain ⟨b4, eb4, ob4, H⟩ := H
    refine vx_getR (b := b4) (idx := 109) (kd := 4) (s := 7) (fin := false) (q := 35) (by decide +kernel) (vx_Tk hT (by decide +kernel)) eb4 ?_
    refine vx_getR (b := vx_r b4 11) (idx := 236) (kd := 7) (s := 11) (fin := true) (q := 38) (by decide +kernel) (vx_Tk hT ob4) (vx_Tr hT (kd := 7) ob4 (by decide +kernel) (vx_f7_11 ob4).1) ?_
    refine vx_iload_n (n := 1) (q := 39) (by decide +kernel) rfl ?_
    refine vx_iconst (n := 4) (q := 40) (by decide +kernel) ?_
    refine vx_imul (q := 41) (by decide +kernel) ?_
    refine vx_iload_n (n := 2) (q := 42) (by decide +kernel) rfl ?_
    refine vx_iadd (q := 43) (by decide +kernel) ?_
    obtain ⟨k5, H⟩ := H
    refine vx_laload (z := 24) (q := 44) (by decide +kernel) (vx_Tk hT (vx_f7_11 ob4).2.1) (vx_Tz hT ⟨(vx_f7_11 ob4).2.1.1, (vx_f7_11 ob4).2.2⟩) (vx_ix k5 (by decide)) ?_
    refine vx_callL (i := .invokevirtual 197) (how := 3) (cm := 127) (np := 2) (q := 47) (args := [.ref 21, .long (vx_l (vx_K h (vx_r b4 11) ((v1 * 4) + v2).toNat))]) (rest := [.int (vx_i (v2 + 1)), .ref 33]) (by decide +kernel) rfl rfl rfl (vx_w2 (w := 3) (ml := 3) rfl (by decide +kernel)) (vx_rcv (kd := 4) (vx_Tk hT (by decide +kernel)) (by decide +kernel)) H (fun r6 h6 hr6 hs6 H => ?_)
    have hT6 := vx_Tsh hT hs6
    replace H := H hT6
    obtain ⟨k7, H⟩ := H
    refine vx_lastore (z := 5) (q := 48) (by decide +kernel) (vx_Tk hT6 (by decide +kernel)) (vx_Tz hT6 (by decide +kernel)) (vx_ix k7 (by decide)) (fun h8 e8 => ?_)
    have hT8 := vx_TK hT6 e8
    replace H := H h8 e8 hT8
    refine vx_iinc (n := 2) (m := 1) (x := v2) (q := 51) (lv' := [some (.ref 21), some (.int (vx_i v1)), some (.int (vx_i (v2 + 1)))]) (by decide +kernel) rfl rfl ?_
    refine vx_goto (off := (-33)) (q := 54) (t := 18) (by decide +kernel) ?_
    exact H
-- RuleHouse$Engine.reckons(II)Z
theorem vg_123 {d : Nat} {h : ve_H} {P : Int → ve_H → Prop} {x1 : Int} {x2 : Int} (hT : vx_T 1 625 h) (H : (∃ b1, ve_R h 21 7 = some b1 ∧ vx_o 1 625 7 b1 ∧ (0 ≤ ((x1 * 4) + 1) ∧ ((x1 * 4) + 1) < 24) ∧ vx_CL d 127 [.ref 21, .long (vx_l (vx_K h (vx_r b1 11) ((x1 * 4) + 1).toNat))] h (fun r3 h3 => vx_T 1 625 h3 → (∃ b4, ve_R h3 21 7 = some b4 ∧ vx_o 1 625 7 b4 ∧ (0 ≤ ((x1 * 4) + 2) ∧ ((x1 * 4) + 2) < 24) ∧ vx_CL d 127 [.ref 21, .long (vx_l (vx_K h3 (vx_r b4 11) ((x1 * 4) + 2).toNat))] h3 (fun r6 h6 => vx_T 1 625 h6 → vx_CI d 129 [.long (vx_l r3)] h6 (fun r7 h7 => vx_T 1 625 h7 → ((r7 = 0 → P 0 h7) ∧ (r7 ≠ 0 → vx_CI d 129 [.long (vx_l r6)] h7 (fun r9 h9 => vx_T 1 625 h9 → ((r9 ≠ 0 → (∃ b11, ve_R h9 21 7 = some b11 ∧ vx_o 1 625 7 b11 ∧ (0 ≤ x1 ∧ x1 < 6) ∧ (vx_rI r6) ∧ ((r6 ≠ 0 → (0 ≤ (x1 * 4) ∧ (x1 * 4) < 24) ∧ vx_CI d 124 [.int (vx_i r3), .int (vx_i (vx_J h9 (vx_r b11 9) x1.toNat)), .int (vx_i r6)] h9 (fun r16 h16 => vx_T 1 625 h16 → vx_CI d 125 [.ref 21, .long (vx_l (vx_K h9 (vx_r b11 11) (x1 * 4).toNat)), .long (vx_l r16), .int (vx_i x2)] h16 (fun r17 h17 => vx_T 1 625 h17 → (r17 = 0 ∨ r17 = 1) ∧ P r17 h17))) ∧ (r6 = 0 → (((vx_J h9 (vx_r b11 9) x1.toNat) = 47 → P 0 h9) ∧ ((vx_J h9 (vx_r b11 9) x1.toNat) ≠ 47 → (((vx_J h9 (vx_r b11 9) x1.toNat) ≠ 37 → (0 ≤ (x1 * 4) ∧ (x1 * 4) < 24) ∧ vx_CI d 124 [.int (vx_i r3), .int (vx_i (vx_J h9 (vx_r b11 9) x1.toNat)), .int (vx_i r6)] h9 (fun r22 h22 => vx_T 1 625 h22 → vx_CI d 125 [.ref 21, .long (vx_l (vx_K h9 (vx_r b11 11) (x1 * 4).toNat)), .long (vx_l r22), .int (vx_i x2)] h22 (fun r23 h23 => vx_T 1 625 h23 → (r23 = 0 ∨ r23 = 1) ∧ P r23 h23))) ∧ ((vx_J h9 (vx_r b11 9) x1.toNat) = 37 → P 0 h9)))))))) ∧ (r9 = 0 → P 0 h9))))))))))) : vx_CI (d + 1) 123 [.ref 21, .int (vx_i x1), .int (vx_i x2)] h P := by
  refine vx_enter (ml := 11) (by decide +kernel) ?_
  show vx_W _ _ 0 [some (.ref 21), some (.int (vx_i x1)), some (.int (vx_i x2)), none, none, none, none, none, none, none, none] [] h _
  refine vx_iload_n (n := 1) (q := 1) (by decide +kernel) rfl ?_
  refine vx_iconst (n := 4) (q := 2) (by decide +kernel) ?_
  refine vx_imul (q := 3) (by decide +kernel) ?_
  refine vx_istore_n (n := 3) (q := 4) (lv' := [some (.ref 21), some (.int (vx_i x1)), some (.int (vx_i x2)), some (.int (vx_i (x1 * 4))), none, none, none, none, none, none, none]) (by decide +kernel) rfl ?_
  refine vx_aload_n (n := 0) (q := 5) (by decide +kernel) rfl ?_
  refine vx_aload_n (n := 0) (q := 6) (by decide +kernel) rfl ?_
  obtain ⟨b1, eb1, ob1, H⟩ := H
  refine vx_getR (b := b1) (idx := 109) (kd := 4) (s := 7) (fin := false) (q := 9) (by decide +kernel) (vx_Tk hT (by decide +kernel)) eb1 ?_
  refine vx_getR (b := vx_r b1 11) (idx := 236) (kd := 7) (s := 11) (fin := true) (q := 12) (by decide +kernel) (vx_Tk hT ob1) (vx_Tr hT (kd := 7) ob1 (by decide +kernel) (vx_f7_11 ob1).1) ?_
  refine vx_iload_n (n := 3) (q := 13) (by decide +kernel) rfl ?_
  refine vx_iconst (n := 1) (q := 14) (by decide +kernel) ?_
  refine vx_iadd (q := 15) (by decide +kernel) ?_
  obtain ⟨k2, H⟩ := H
  refine vx_laload (z := 24) (q := 16) (by decide +kernel) (vx_Tk hT (vx_f7_11 ob1).2.1) (vx_Tz hT ⟨(vx_f7_11 ob1).2.1.1, (vx_f7_11 ob1).2.2⟩) (vx_ix k2 (by decide)) ?_
  refine vx_callL (i := .invokevirtual 197) (how := 3) (cm := 127) (np := 2) (q := 19) (args := [.ref 21, .long (vx_l (vx_K h (vx_r b1 11) ((x1 * 4) + 1).toNat))]) (rest := []) (by decide +kernel) rfl rfl rfl (vx_w2 (w := 3) (ml := 3) rfl (by decide +kernel)) (vx_rcv (kd := 4) (vx_Tk hT (by decide +kernel)) (by decide +kernel)) H (fun r3 h3 hr3 hs3 H => ?_)
  have hT3 := vx_Tsh hT hs3
  replace H := H hT3
  refine vx_lstore (n := 4) (q := 21) (lv' := [some (.ref 21), some (.int (vx_i x1)), some (.int (vx_i x2)), some (.int (vx_i (x1 * 4))), some (.long (vx_l r3)), none, none, none, none, none, none]) (by decide +kernel) rfl ?_
  refine vx_aload_n (n := 0) (q := 22) (by decide +kernel) rfl ?_
  refine vx_aload_n (n := 0) (q := 23) (by decide +kernel) rfl ?_
  obtain ⟨b4, eb4, ob4, H⟩ := H
  refine vx_getR (b := b4) (idx := 109) (kd := 4) (s := 7) (fin := false) (q := 26) (by decide +kernel) (vx_Tk hT3 (by decide +kernel)) eb4 ?_
  refine vx_getR (b := vx_r b4 11) (idx := 236) (kd := 7) (s := 11) (fin := true) (q := 29) (by decide +kernel) (vx_Tk hT3 ob4) (vx_Tr hT3 (kd := 7) ob4 (by decide +kernel) (vx_f7_11 ob4).1) ?_
  refine vx_iload_n (n := 3) (q := 30) (by decide +kernel) rfl ?_
  refine vx_iconst (n := 2) (q := 31) (by decide +kernel) ?_
  refine vx_iadd (q := 32) (by decide +kernel) ?_
  obtain ⟨k5, H⟩ := H
  refine vx_laload (z := 24) (q := 33) (by decide +kernel) (vx_Tk hT3 (vx_f7_11 ob4).2.1) (vx_Tz hT3 ⟨(vx_f7_11 ob4).2.1.1, (vx_f7_11 ob4).2.2⟩) (vx_ix k5 (by decide)) ?_
  refine vx_callL (i := .invokevirtual 197) (how := 3) (cm := 127) (np := 2) (q := 36) (args := [.ref 21, .long (vx_l (vx_K h3 (vx_r b4 11) ((x1 * 4) + 2).toNat))]) (rest := []) (by decide +kernel) rfl rfl rfl (vx_w2 (w := 3) (ml := 3) rfl (by decide +kernel)) (vx_rcv (kd := 4) (vx_Tk hT3 (by decide +kernel)) (by decide +kernel)) H (fun r6 h6 hr6 hs6 H => ?_)
  have hT6 := vx_Tsh hT3 hs6
  replace H := H hT6
  refine vx_lstore (n := 6) (q := 38) (lv' := [some (.ref 21), some (.int (vx_i x1)), some (.int (vx_i x2)), some (.int (vx_i (x1 * 4))), some (.long (vx_l r3)), none, some (.long (vx_l r6)), none, none, none, none]) (by decide +kernel) rfl ?_
  refine vx_lload (n := 4) (q := 40) (by decide +kernel) rfl ?_
  refine vx_callI (i := .invokestatic 221) (how := 4) (cm := 129) (np := 1) (q := 43) (args := [.long (vx_l r3)]) (rest := []) (by decide +kernel) rfl rfl rfl (vx_w2 (w := 2) (ml := 2) rfl (by decide +kernel)) rfl H (fun r7 h7 hr7 hs7 H => ?_)
  have hT7 := vx_Tsh hT6 hs7
  replace H := H hT7
  refine vx_if0_eq (off := 11) (q := 46) (t := 54) (by decide +kernel) hr7 (fun c8 => ?_) (fun c8 => ?_)
  · replace H := H.1 c8
    refine vx_iconst (n := 0) (q := 55) (by decide +kernel) ?_
    refine vx_retZ (q := 56) (by decide +kernel) (Or.inl rfl) ?_
    exact H
  · replace H := H.2 c8
    refine vx_lload (n := 6) (q := 48) (by decide +kernel) rfl ?_
    refine vx_callI (i := .invokestatic 221) (how := 4) (cm := 129) (np := 1) (q := 51) (args := [.long (vx_l r6)]) (rest := []) (by decide +kernel) rfl rfl rfl (vx_w2 (w := 2) (ml := 2) rfl (by decide +kernel)) rfl H (fun r9 h9 hr9 hs9 H => ?_)
    have hT9 := vx_Tsh hT7 hs9
    replace H := H hT9
    refine vx_if0_ne (off := 5) (q := 54) (t := 56) (by decide +kernel) hr9 (fun c10 => ?_) (fun c10 => ?_)
    · replace H := H.1 c10
      refine vx_lload (n := 4) (q := 58) (by decide +kernel) rfl ?_
      refine vx_l2i (q := 59) (by decide +kernel) ?_
      refine vx_istore (n := 8) (q := 61) (lv' := [some (.ref 21), some (.int (vx_i x1)), some (.int (vx_i x2)), some (.int (vx_i (x1 * 4))), some (.long (vx_l r3)), none, some (.long (vx_l r6)), none, some (.int (vx_i r3)), none, none]) (by decide +kernel) rfl ?_
      refine vx_lload (n := 6) (q := 63) (by decide +kernel) rfl ?_
      refine vx_l2i (q := 64) (by decide +kernel) ?_
      refine vx_istore (n := 9) (q := 66) (lv' := [some (.ref 21), some (.int (vx_i x1)), some (.int (vx_i x2)), some (.int (vx_i (x1 * 4))), some (.long (vx_l r3)), none, some (.long (vx_l r6)), none, some (.int (vx_i r3)), some (.int (vx_i r6)), none]) (by decide +kernel) rfl ?_
      refine vx_aload_n (n := 0) (q := 67) (by decide +kernel) rfl ?_
      obtain ⟨b11, eb11, ob11, H⟩ := H
      refine vx_getR (b := b11) (idx := 109) (kd := 4) (s := 7) (fin := false) (q := 70) (by decide +kernel) (vx_Tk hT9 (by decide +kernel)) eb11 ?_
      refine vx_getR (b := vx_r b11 9) (idx := 127) (kd := 7) (s := 9) (fin := true) (q := 73) (by decide +kernel) (vx_Tk hT9 ob11) (vx_Tr hT9 (kd := 7) ob11 (by decide +kernel) (vx_f7_9 ob11).1) ?_
      refine vx_iload_n (n := 1) (q := 74) (by decide +kernel) rfl ?_
      obtain ⟨k12, H⟩ := H
      refine vx_iaload (z := 6) (q := 75) (by decide +kernel) (vx_Tk hT9 (vx_f7_9 ob11).2.1) (vx_Tz hT9 ⟨(vx_f7_9 ob11).2.1.1, (vx_f7_9 ob11).2.2⟩) (vx_ix k12 (by decide)) ?_
      refine vx_istore (n := 10) (q := 77) (lv' := [some (.ref 21), some (.int (vx_i x1)), some (.int (vx_i x2)), some (.int (vx_i (x1 * 4))), some (.long (vx_l r3)), none, some (.long (vx_l r6)), none, some (.int (vx_i r3)), some (.int (vx_i r6)), some (.int (vx_i (vx_J h9 (vx_r b11 9) x1.toNat)))]) (by decide +kernel) rfl ?_
      refine vx_iload (n := 9) (q := 79) (by decide +kernel) rfl ?_
      obtain ⟨k13, H⟩ := H
      refine vx_if0_ne (off := 19) (q := 82) (t := 98) (by decide +kernel) k13 (fun c14 => ?_) (fun c14 => ?_)
      · replace H := H.1 c14
        refine vx_aload_n (n := 0) (q := 99) (by decide +kernel) rfl ?_
        refine vx_aload_n (n := 0) (q := 100) (by decide +kernel) rfl ?_
        refine vx_getR (b := b11) (idx := 109) (kd := 4) (s := 7) (fin := false) (q := 103) (by decide +kernel) (vx_Tk hT9 (by decide +kernel)) eb11 ?_
        refine vx_getR (b := vx_r b11 11) (idx := 236) (kd := 7) (s := 11) (fin := true) (q := 106) (by decide +kernel) (vx_Tk hT9 ob11) (vx_Tr hT9 (kd := 7) ob11 (by decide +kernel) (vx_f7_11 ob11).1) ?_
        refine vx_iload_n (n := 3) (q := 107) (by decide +kernel) rfl ?_
        obtain ⟨k15, H⟩ := H
        refine vx_laload (z := 24) (q := 108) (by decide +kernel) (vx_Tk hT9 (vx_f7_11 ob11).2.1) (vx_Tz hT9 ⟨(vx_f7_11 ob11).2.1.1, (vx_f7_11 ob11).2.2⟩) (vx_ix k15 (by decide)) ?_
        refine vx_iload (n := 8) (q := 110) (by decide +kernel) rfl ?_
        refine vx_iload (n := 10) (q := 112) (by decide +kernel) rfl ?_
        refine vx_iload (n := 9) (q := 114) (by decide +kernel) rfl ?_
        refine vx_callI (i := .invokestatic 261) (how := 4) (cm := 124) (np := 3) (q := 117) (args := [.int (vx_i r3), .int (vx_i (vx_J h9 (vx_r b11 9) x1.toNat)), .int (vx_i r6)]) (rest := [.long (vx_l (vx_K h9 (vx_r b11 11) (x1 * 4).toNat)), .ref 21]) (by decide +kernel) rfl rfl rfl (vx_w2 (w := 3) (ml := 3) rfl (by decide +kernel)) rfl H (fun r16 h16 hr16 hs16 H => ?_)
        have hT16 := vx_Tsh hT9 hs16
        replace H := H hT16
        refine vx_i2l (q := 118) (by decide +kernel) hr16 ?_
        refine vx_iload_n (n := 2) (q := 119) (by decide +kernel) rfl ?_
        refine vx_callI (i := .invokevirtual 253) (how := 3) (cm := 125) (np := 4) (q := 122) (args := [.ref 21, .long (vx_l (vx_K h9 (vx_r b11 11) (x1 * 4).toNat)), .long (vx_l r16), .int (vx_i x2)]) (rest := []) (by decide +kernel) rfl rfl rfl (vx_w2 (w := 6) (ml := 6) rfl (by decide +kernel)) (vx_rcv (kd := 4) (vx_Tk hT16 (by decide +kernel)) (by decide +kernel)) H (fun r17 h17 hr17 hs17 H => ?_)
        have hT17 := vx_Tsh hT16 hs17
        replace H := H hT17
        obtain ⟨k18, H⟩ := H
        refine vx_retZ (q := 123) (by decide +kernel) k18 ?_
        exact H
      · replace H := H.2 c14
        refine vx_iload (n := 10) (q := 84) (by decide +kernel) rfl ?_
        refine vx_bipush (n := 47) (q := 86) (by decide +kernel) ?_
        refine vx_icmp_eq (off := 10) (q := 89) (t := 96) (by decide +kernel) (vx_rI_J h9 (vx_r b11 9) x1.toNat) (by decide) (fun c19 => ?_) (fun c19 => ?_)
        · replace H := H.1 c19
          refine vx_iconst (n := 0) (q := 97) (by decide +kernel) ?_
          refine vx_retZ (q := 98) (by decide +kernel) (Or.inl rfl) ?_
          exact H
        · replace H := H.2 c19
          refine vx_iload (n := 10) (q := 91) (by decide +kernel) rfl ?_
          refine vx_bipush (n := 37) (q := 93) (by decide +kernel) ?_
          refine vx_icmp_ne (off := 5) (q := 96) (t := 98) (by decide +kernel) (vx_rI_J h9 (vx_r b11 9) x1.toNat) (by decide) (fun c20 => ?_) (fun c20 => ?_)
          · replace H := H.1 c20
            refine vx_aload_n (n := 0) (q := 99) (by decide +kernel) rfl ?_
            refine vx_aload_n (n := 0) (q := 100) (by decide +kernel) rfl ?_
            refine vx_getR (b := b11) (idx := 109) (kd := 4) (s := 7) (fin := false) (q := 103) (by decide +kernel) (vx_Tk hT9 (by decide +kernel)) eb11 ?_
            refine vx_getR (b := vx_r b11 11) (idx := 236) (kd := 7) (s := 11) (fin := true) (q := 106) (by decide +kernel) (vx_Tk hT9 ob11) (vx_Tr hT9 (kd := 7) ob11 (by decide +kernel) (vx_f7_11 ob11).1) ?_
            refine vx_iload_n (n := 3) (q := 107) (by decide +kernel) rfl ?_
            obtain ⟨k21, H⟩ := H
            refine vx_laload (z := 24) (q := 108) (by decide +kernel) (vx_Tk hT9 (vx_f7_11 ob11).2.1) (vx_Tz hT9 ⟨(vx_f7_11 ob11).2.1.1, (vx_f7_11 ob11).2.2⟩) (vx_ix k21 (by decide)) ?_
            refine vx_iload (n := 8) (q := 110) (by decide +kernel) rfl ?_
            refine vx_iload (n := 10) (q := 112) (by decide +kernel) rfl ?_
            refine vx_iload (n := 9) (q := 114) (by decide +kernel) rfl ?_
            refine vx_callI (i := .invokestatic 261) (how := 4) (cm := 124) (np := 3) (q := 117) (args := [.int (vx_i r3), .int (vx_i (vx_J h9 (vx_r b11 9) x1.toNat)), .int (vx_i r6)]) (rest := [.long (vx_l (vx_K h9 (vx_r b11 11) (x1 * 4).toNat)), .ref 21]) (by decide +kernel) rfl rfl rfl (vx_w2 (w := 3) (ml := 3) rfl (by decide +kernel)) rfl H (fun r22 h22 hr22 hs22 H => ?_)
            have hT22 := vx_Tsh hT9 hs22
            replace H := H hT22
            refine vx_i2l (q := 118) (by decide +kernel) hr22 ?_
            refine vx_iload_n (n := 2) (q := 119) (by decide +kernel) rfl ?_
            refine vx_callI (i := .invokevirtual 253) (how := 3) (cm := 125) (np := 4) (q := 122) (args := [.ref 21, .long (vx_l (vx_K h9 (vx_r b11 11) (x1 * 4).toNat)), .long (vx_l r22), .int (vx_i x2)]) (rest := []) (by decide +kernel) rfl rfl rfl (vx_w2 (w := 6) (ml := 6) rfl (by decide +kernel)) (vx_rcv (kd := 4) (vx_Tk hT22 (by decide +kernel)) (by decide +kernel)) H (fun r23 h23 hr23 hs23 H => ?_)
            have hT23 := vx_Tsh hT22 hs23
            replace H := H hT23
            obtain ⟨k24, H⟩ := H
            refine vx_retZ (q := 123) (by decide +kernel) k24 ?_
            exact H
          · replace H := H.2 c20
            refine vx_iconst (n := 0) (q := 97) (by decide +kernel) ?_
            refine vx_retZ (q := 98) (by decide +kernel) (Or.inl rfl) ?_
            exact H
    · replace H := H.2 c10
      refine vx_iconst (n := 0) (q := 55) (by decide +kernel) ?_
      refine vx_retZ (q := 56) (by decide +kernel) (Or.inl rfl) ?_
      exact H
-- RuleHouse$Engine.reckoned(III)I
theorem vg_124 {d : Nat} {h : ve_H} {P : Int → ve_H → Prop} {x1 : Int} {x2 : Int} {x3 : Int} (hT : vx_T 1 625 h) (H : (vx_rI x2) ∧ ((x2 = 42 → (vx_rI (x1 * x3)) ∧ P (x1 * x3) h) ∧ (x2 = 43 → (vx_rI (x1 + x3)) ∧ P (x1 + x3) h) ∧ (x2 = 45 → (vx_rI (x1 - x3)) ∧ P (x1 - x3) h) ∧ (x2 = 47 → (vx_rI x3) ∧ ((x3 ≠ 0 → (vx_rI x3 ∧ x3 ≠ 0) ∧ P (vx_div x1 x3) h) ∧ (x3 = 0 → P 0 h))) ∧ (x2 ≠ 42 ∧ x2 ≠ 43 ∧ x2 ≠ 45 ∧ x2 ≠ 47 ∧ True → (vx_rI x3) ∧ ((x3 ≠ 0 → (vx_rI x3 ∧ x3 ≠ 0) ∧ P (vx_rem x1 x3) h) ∧ (x3 = 0 → P 0 h))))) : vx_CI d 124 [.int (vx_i x1), .int (vx_i x2), .int (vx_i x3)] h P := by
  refine vx_enter (ml := 3) (by decide +kernel) ?_
  show vx_W _ _ 0 [some (.int (vx_i x1)), some (.int (vx_i x2)), some (.int (vx_i x3))] [] h _
  refine vx_iload_n (n := 1) (q := 1) (by decide +kernel) rfl ?_
  obtain ⟨k1, H⟩ := H
  refine vx_tsw (dd := 63) (lo := 42) (hi := 47) (offs := #[47, 39, 63, 43, 63, 51]) (tl := [(42, 48), (43, 40), (45, 44), (47, 52)]) (td := 64) (q := 40) (by decide +kernel) k1 ⟨fun c2 => ?_, fun c2 => ?_, fun c2 => ?_, fun c2 => ?_, trivial⟩ (fun c2 => ?_)
  · replace H := H.1 c2
    refine vx_iload_n (n := 0) (q := 49) (by decide +kernel) rfl ?_
    refine vx_iload_n (n := 2) (q := 50) (by decide +kernel) rfl ?_
    refine vx_imul (q := 51) (by decide +kernel) ?_
    obtain ⟨k3, H⟩ := H
    refine vx_retI (q := 52) (by decide +kernel) k3 ?_
    exact H
  · replace H := H.2.1 c2
    refine vx_iload_n (n := 0) (q := 41) (by decide +kernel) rfl ?_
    refine vx_iload_n (n := 2) (q := 42) (by decide +kernel) rfl ?_
    refine vx_iadd (q := 43) (by decide +kernel) ?_
    obtain ⟨k4, H⟩ := H
    refine vx_retI (q := 44) (by decide +kernel) k4 ?_
    exact H
  · replace H := H.2.2.1 c2
    refine vx_iload_n (n := 0) (q := 45) (by decide +kernel) rfl ?_
    refine vx_iload_n (n := 2) (q := 46) (by decide +kernel) rfl ?_
    refine vx_isub (q := 47) (by decide +kernel) ?_
    obtain ⟨k5, H⟩ := H
    refine vx_retI (q := 48) (by decide +kernel) k5 ?_
    exact H
  · replace H := H.2.2.2.1 c2
    refine vx_iload_n (n := 2) (q := 53) (by decide +kernel) rfl ?_
    obtain ⟨k6, H⟩ := H
    refine vx_if0_ne (off := 7) (q := 56) (t := 60) (by decide +kernel) k6 (fun c7 => ?_) (fun c7 => ?_)
    · replace H := H.1 c7
      refine vx_iload_n (n := 0) (q := 61) (by decide +kernel) rfl ?_
      refine vx_iload_n (n := 2) (q := 62) (by decide +kernel) rfl ?_
      obtain ⟨k8, H⟩ := H
      refine vx_idiv (q := 63) (by decide +kernel) k8 ?_
      refine vx_retI (q := 64) (by decide +kernel) (vx_rI_toInt _) ?_
      exact H
    · replace H := H.2 c7
      refine vx_iconst (n := 0) (q := 57) (by decide +kernel) ?_
      refine vx_goto (off := 6) (q := 60) (t := 63) (by decide +kernel) ?_
      refine vx_retI (q := 64) (by decide +kernel) (by decide) ?_
      exact H
  · replace H := H.2.2.2.2 c2
    refine vx_iload_n (n := 2) (q := 65) (by decide +kernel) rfl ?_
    obtain ⟨k9, H⟩ := H
    refine vx_if0_ne (off := 7) (q := 68) (t := 72) (by decide +kernel) k9 (fun c10 => ?_) (fun c10 => ?_)
    · replace H := H.1 c10
      refine vx_iload_n (n := 0) (q := 73) (by decide +kernel) rfl ?_
      refine vx_iload_n (n := 2) (q := 74) (by decide +kernel) rfl ?_
      obtain ⟨k11, H⟩ := H
      refine vx_irem (q := 75) (by decide +kernel) k11 ?_
      refine vx_retI (q := 76) (by decide +kernel) (vx_rI_toInt _) ?_
      exact H
    · replace H := H.2 c10
      refine vx_iconst (n := 0) (q := 69) (by decide +kernel) ?_
      refine vx_goto (off := 6) (q := 72) (t := 75) (by decide +kernel) ?_
      refine vx_retI (q := 76) (by decide +kernel) (by decide) ?_
      exact H
-- RuleHouse$Engine.gives(JJI)Z
theorem vg_125 {d : Nat} {h : ve_H} {P : Int → ve_H → Prop} {x1 : Int} {x2 : Int} {x3 : Int} (hT : vx_T 1 625 h) (H : vx_CI d 128 [.long (vx_l x1), .int (vx_i x3)] h (fun r1 h1 => vx_T 1 625 h1 → ((r1 = 0 → vx_CL d 127 [.ref 21, .long (vx_l x1)] h1 (fun r3 h3 => vx_T 1 625 h3 → (vx_rL x2) ∧ ((r3 ≠ x2 → P 0 h3) ∧ (r3 = x2 → P 1 h3)))) ∧ (r1 ≠ 0 → (0 ≤ (x1 - 144115188075855872) ∧ (x1 - 144115188075855872) < 8) ∧ (∀ h7, h7 = vx_sK h1 31 (x1 - 144115188075855872).toNat x2 → vx_T 1 625 h7 → P 1 h7))))) : vx_CI (d + 1) 125 [.ref 21, .long (vx_l x1), .long (vx_l x2), .int (vx_i x3)] h P := by
  refine vx_enter (ml := 6) (by decide +kernel) ?_
  show vx_W _ _ 0 [some (.ref 21), some (.long (vx_l x1)), none, some (.long (vx_l x2)), none, some (.int (vx_i x3))] [] h _
  refine vx_lload_n (n := 1) (q := 1) (by decide +kernel) rfl ?_
  refine vx_iload (n := 5) (q := 3) (by decide +kernel) rfl ?_
  refine vx_callI (i := .invokestatic 249) (how := 4) (cm := 128) (np := 2) (q := 6) (args := [.long (vx_l x1), .int (vx_i x3)]) (rest := []) (by decide +kernel) rfl rfl rfl (vx_w2 (w := 3) (ml := 3) rfl (by decide +kernel)) rfl H (fun r1 h1 hr1 hs1 H => ?_)
  have hT1 := vx_Tsh hT hs1
  replace H := H hT1
  refine vx_if0_eq (off := 17) (q := 9) (t := 23) (by decide +kernel) hr1 (fun c2 => ?_) (fun c2 => ?_)
  · replace H := H.1 c2
    refine vx_aload_n (n := 0) (q := 24) (by decide +kernel) rfl ?_
    refine vx_lload_n (n := 1) (q := 25) (by decide +kernel) rfl ?_
    refine vx_callL (i := .invokevirtual 197) (how := 3) (cm := 127) (np := 2) (q := 28) (args := [.ref 21, .long (vx_l x1)]) (rest := []) (by decide +kernel) rfl rfl rfl (vx_w2 (w := 3) (ml := 3) rfl (by decide +kernel)) (vx_rcv (kd := 4) (vx_Tk hT1 (by decide +kernel)) (by decide +kernel)) H (fun r3 h3 hr3 hs3 H => ?_)
    have hT3 := vx_Tsh hT1 hs3
    replace H := H hT3
    refine vx_lload_n (n := 3) (q := 29) (by decide +kernel) rfl ?_
    obtain ⟨k4, H⟩ := H
    refine vx_lc_ne (off := 7) (p := 30) (q := 33) (t := 37) (by decide +kernel) hr3 k4 (fun c5 => ?_) (fun c5 => ?_)
    · replace H := H.1 c5
      refine vx_iconst (n := 0) (q := 38) (by decide +kernel) ?_
      refine vx_retZ (q := 39) (by decide +kernel) (Or.inl rfl) ?_
      exact H
    · replace H := H.2 c5
      refine vx_iconst (n := 1) (q := 34) (by decide +kernel) ?_
      refine vx_goto (off := 4) (q := 37) (t := 38) (by decide +kernel) ?_
      refine vx_retZ (q := 39) (by decide +kernel) (Or.inr rfl) ?_
      exact H
  · replace H := H.2 c2
    refine vx_aload_n (n := 0) (q := 10) (by decide +kernel) rfl ?_
    refine vx_getR (b := 31) (idx := 18) (kd := 4) (s := 1) (fin := true) (q := 13) (by decide +kernel) (vx_Tk hT1 (by decide +kernel)) (vx_Tr hT1 (kd := 4) (by decide +kernel) (by decide +kernel) (by decide +kernel)) ?_
    refine vx_lload_n (n := 1) (q := 14) (by decide +kernel) rfl ?_
    refine vx_ldc (idx := 242) (v := 144115188075855872) (m := 144115188075855872) (q := 17) (by decide +kernel) ?_
    refine vx_lsub (q := 18) (by decide +kernel) ?_
    refine vx_l2i (q := 19) (by decide +kernel) ?_
    refine vx_lload_n (n := 3) (q := 20) (by decide +kernel) rfl ?_
    obtain ⟨k6, H⟩ := H
    refine vx_lastore (z := 8) (q := 21) (by decide +kernel) (vx_Tk hT1 (by decide +kernel)) (vx_Tz hT1 (by decide +kernel)) (vx_ix k6 (by decide)) (fun h7 e7 => ?_)
    have hT7 := vx_TK hT1 e7
    replace H := H h7 e7 hT7
    refine vx_iconst (n := 1) (q := 22) (by decide +kernel) ?_
    refine vx_retZ (q := 23) (by decide +kernel) (Or.inr rfl) ?_
    exact H
-- RuleHouse$Engine.compares(I)Z
theorem vg_126 {d : Nat} {h : ve_H} {P : Int → ve_H → Prop} {x1 : Int} (hT : vx_T 1 625 h) (H : (∃ b1, ve_R h 21 7 = some b1 ∧ vx_o 1 625 7 b1 ∧ (0 ≤ (x1 * 4) ∧ (x1 * 4) < 24) ∧ vx_CL d 127 [.ref 21, .long (vx_l (vx_K h (vx_r b1 11) (x1 * 4).toNat))] h (fun r3 h3 => vx_T 1 625 h3 → (∃ b4, ve_R h3 21 7 = some b4 ∧ vx_o 1 625 7 b4 ∧ (0 ≤ ((x1 * 4) + 1) ∧ ((x1 * 4) + 1) < 24) ∧ vx_CL d 127 [.ref 21, .long (vx_l (vx_K h3 (vx_r b4 11) ((x1 * 4) + 1).toNat))] h3 (fun r6 h6 => vx_T 1 625 h6 → (∃ b7, ve_R h6 21 7 = some b7 ∧ vx_o 1 625 7 b7 ∧ (0 ≤ x1 ∧ x1 < 6) ∧ (((vx_J h6 (vx_r b7 8) x1.toNat) = 11 → ((r3 = r6 → P 0 h6) ∧ (r3 ≠ r6 → P 1 h6))) ∧ ((vx_J h6 (vx_r b7 8) x1.toNat) = 12 → ((r6 < r3 → P 0 h6) ∧ (r3 ≤ r6 → P 1 h6))) ∧ ((vx_J h6 (vx_r b7 8) x1.toNat) = 60 → ((r6 ≤ r3 → P 0 h6) ∧ (r3 < r6 → P 1 h6))) ∧ ((vx_J h6 (vx_r b7 8) x1.toNat) = 62 → ((r3 ≤ r6 → P 0 h6) ∧ (r6 < r3 → P 1 h6))) ∧ ((vx_J h6 (vx_r b7 8) x1.toNat) ≠ 11 ∧ (vx_J h6 (vx_r b7 8) x1.toNat) ≠ 12 ∧ (vx_J h6 (vx_r b7 8) x1.toNat) ≠ 60 ∧ (vx_J h6 (vx_r b7 8) x1.toNat) ≠ 62 ∧ True → ((r3 < r6 → P 0 h6) ∧ (r6 ≤ r3 → P 1 h6)))))))))) : vx_CI (d + 1) 126 [.ref 21, .int (vx_i x1)] h P := by
  refine vx_enter (ml := 6) (by decide +kernel) ?_
  show vx_W _ _ 0 [some (.ref 21), some (.int (vx_i x1)), none, none, none, none] [] h _
  refine vx_aload_n (n := 0) (q := 1) (by decide +kernel) rfl ?_
  refine vx_aload_n (n := 0) (q := 2) (by decide +kernel) rfl ?_
  obtain ⟨b1, eb1, ob1, H⟩ := H
  refine vx_getR (b := b1) (idx := 109) (kd := 4) (s := 7) (fin := false) (q := 5) (by decide +kernel) (vx_Tk hT (by decide +kernel)) eb1 ?_
  refine vx_getR (b := vx_r b1 11) (idx := 236) (kd := 7) (s := 11) (fin := true) (q := 8) (by decide +kernel) (vx_Tk hT ob1) (vx_Tr hT (kd := 7) ob1 (by decide +kernel) (vx_f7_11 ob1).1) ?_
  refine vx_iload_n (n := 1) (q := 9) (by decide +kernel) rfl ?_
  refine vx_iconst (n := 4) (q := 10) (by decide +kernel) ?_
  refine vx_imul (q := 11) (by decide +kernel) ?_
  obtain ⟨k2, H⟩ := H
  refine vx_laload (z := 24) (q := 12) (by decide +kernel) (vx_Tk hT (vx_f7_11 ob1).2.1) (vx_Tz hT ⟨(vx_f7_11 ob1).2.1.1, (vx_f7_11 ob1).2.2⟩) (vx_ix k2 (by decide)) ?_
  refine vx_callL (i := .invokevirtual 197) (how := 3) (cm := 127) (np := 2) (q := 15) (args := [.ref 21, .long (vx_l (vx_K h (vx_r b1 11) (x1 * 4).toNat))]) (rest := []) (by decide +kernel) rfl rfl rfl (vx_w2 (w := 3) (ml := 3) rfl (by decide +kernel)) (vx_rcv (kd := 4) (vx_Tk hT (by decide +kernel)) (by decide +kernel)) H (fun r3 h3 hr3 hs3 H => ?_)
  have hT3 := vx_Tsh hT hs3
  replace H := H hT3
  refine vx_lstore_n (n := 2) (q := 16) (lv' := [some (.ref 21), some (.int (vx_i x1)), some (.long (vx_l r3)), none, none, none]) (by decide +kernel) rfl ?_
  refine vx_aload_n (n := 0) (q := 17) (by decide +kernel) rfl ?_
  refine vx_aload_n (n := 0) (q := 18) (by decide +kernel) rfl ?_
  obtain ⟨b4, eb4, ob4, H⟩ := H
  refine vx_getR (b := b4) (idx := 109) (kd := 4) (s := 7) (fin := false) (q := 21) (by decide +kernel) (vx_Tk hT3 (by decide +kernel)) eb4 ?_
  refine vx_getR (b := vx_r b4 11) (idx := 236) (kd := 7) (s := 11) (fin := true) (q := 24) (by decide +kernel) (vx_Tk hT3 ob4) (vx_Tr hT3 (kd := 7) ob4 (by decide +kernel) (vx_f7_11 ob4).1) ?_
  refine vx_iload_n (n := 1) (q := 25) (by decide +kernel) rfl ?_
  refine vx_iconst (n := 4) (q := 26) (by decide +kernel) ?_
  refine vx_imul (q := 27) (by decide +kernel) ?_
  refine vx_iconst (n := 1) (q := 28) (by decide +kernel) ?_
  refine vx_iadd (q := 29) (by decide +kernel) ?_
  obtain ⟨k5, H⟩ := H
  refine vx_laload (z := 24) (q := 30) (by decide +kernel) (vx_Tk hT3 (vx_f7_11 ob4).2.1) (vx_Tz hT3 ⟨(vx_f7_11 ob4).2.1.1, (vx_f7_11 ob4).2.2⟩) (vx_ix k5 (by decide)) ?_
  refine vx_callL (i := .invokevirtual 197) (how := 3) (cm := 127) (np := 2) (q := 33) (args := [.ref 21, .long (vx_l (vx_K h3 (vx_r b4 11) ((x1 * 4) + 1).toNat))]) (rest := []) (by decide +kernel) rfl rfl rfl (vx_w2 (w := 3) (ml := 3) rfl (by decide +kernel)) (vx_rcv (kd := 4) (vx_Tk hT3 (by decide +kernel)) (by decide +kernel)) H (fun r6 h6 hr6 hs6 H => ?_)
  have hT6 := vx_Tsh hT3 hs6
  replace H := H hT6
  refine vx_lstore (n := 4) (q := 35) (lv' := [some (.ref 21), some (.int (vx_i x1)), some (.long (vx_l r3)), none, some (.long (vx_l r6)), none]) (by decide +kernel) rfl ?_
  refine vx_aload_n (n := 0) (q := 36) (by decide +kernel) rfl ?_
  obtain ⟨b7, eb7, ob7, H⟩ := H
  refine vx_getR (b := b7) (idx := 109) (kd := 4) (s := 7) (fin := false) (q := 39) (by decide +kernel) (vx_Tk hT6 (by decide +kernel)) eb7 ?_
  refine vx_getR (b := vx_r b7 8) (idx := 124) (kd := 7) (s := 8) (fin := true) (q := 42) (by decide +kernel) (vx_Tk hT6 ob7) (vx_Tr hT6 (kd := 7) ob7 (by decide +kernel) (vx_f7_8 ob7).1) ?_
  refine vx_iload_n (n := 1) (q := 43) (by decide +kernel) rfl ?_
  obtain ⟨k8, H⟩ := H
  refine vx_iaload (z := 6) (q := 44) (by decide +kernel) (vx_Tk hT6 (vx_f7_8 ob7).2.1) (vx_Tz hT6 ⟨(vx_f7_8 ob7).2.1.1, (vx_f7_8 ob7).2.2⟩) (vx_ix k8 (by decide)) ?_
  refine vx_lsw (dd := 96) (ps := #[(11, 44), (12, 70), (60, 57), (62, 83)]) (tl := [(11, 88), (12, 114), (60, 101), (62, 127)]) (td := 140) (q := 88) (by decide +kernel) (vx_rI_J h6 (vx_r b7 8) x1.toNat) ⟨fun c9 => ?_, fun c9 => ?_, fun c9 => ?_, fun c9 => ?_, trivial⟩ (fun c9 => ?_)
  · replace H := H.1 c9
    refine vx_lload_n (n := 2) (q := 89) (by decide +kernel) rfl ?_
    refine vx_lload (n := 4) (q := 91) (by decide +kernel) rfl ?_
    refine vx_lc_eq (off := 7) (p := 92) (q := 95) (t := 99) (by decide +kernel) hr3 hr6 (fun c10 => ?_) (fun c10 => ?_)
    · replace H := H.1 c10
      refine vx_iconst (n := 0) (q := 100) (by decide +kernel) ?_
      refine vx_retZ (q := 101) (by decide +kernel) (Or.inl rfl) ?_
      exact H
    · replace H := H.2 c10
      refine vx_iconst (n := 1) (q := 96) (by decide +kernel) ?_
      refine vx_goto (off := 4) (q := 99) (t := 100) (by decide +kernel) ?_
      refine vx_retZ (q := 101) (by decide +kernel) (Or.inr rfl) ?_
      exact H
  · replace H := H.2.1 c9
    refine vx_lload_n (n := 2) (q := 115) (by decide +kernel) rfl ?_
    refine vx_lload (n := 4) (q := 117) (by decide +kernel) rfl ?_
    refine vx_lc_gt (off := 7) (p := 118) (q := 121) (t := 125) (by decide +kernel) hr3 hr6 (fun c11 => ?_) (fun c11 => ?_)
    · replace H := H.1 c11
      refine vx_iconst (n := 0) (q := 126) (by decide +kernel) ?_
      refine vx_retZ (q := 127) (by decide +kernel) (Or.inl rfl) ?_
      exact H
    · replace H := H.2 c11
      refine vx_iconst (n := 1) (q := 122) (by decide +kernel) ?_
      refine vx_goto (off := 4) (q := 125) (t := 126) (by decide +kernel) ?_
      refine vx_retZ (q := 127) (by decide +kernel) (Or.inr rfl) ?_
      exact H
  · replace H := H.2.2.1 c9
    refine vx_lload_n (n := 2) (q := 102) (by decide +kernel) rfl ?_
    refine vx_lload (n := 4) (q := 104) (by decide +kernel) rfl ?_
    refine vx_lc_ge (off := 7) (p := 105) (q := 108) (t := 112) (by decide +kernel) hr3 hr6 (fun c12 => ?_) (fun c12 => ?_)
    · replace H := H.1 c12
      refine vx_iconst (n := 0) (q := 113) (by decide +kernel) ?_
      refine vx_retZ (q := 114) (by decide +kernel) (Or.inl rfl) ?_
      exact H
    · replace H := H.2 c12
      refine vx_iconst (n := 1) (q := 109) (by decide +kernel) ?_
      refine vx_goto (off := 4) (q := 112) (t := 113) (by decide +kernel) ?_
      refine vx_retZ (q := 114) (by decide +kernel) (Or.inr rfl) ?_
      exact H
  · replace H := H.2.2.2.1 c9
    refine vx_lload_n (n := 2) (q := 128) (by decide +kernel) rfl ?_
    refine vx_lload (n := 4) (q := 130) (by decide +kernel) rfl ?_
    refine vx_lc_le (off := 7) (p := 131) (q := 134) (t := 138) (by decide +kernel) hr3 hr6 (fun c13 => ?_) (fun c13 => ?_)
    · replace H := H.1 c13
      refine vx_iconst (n := 0) (q := 139) (by decide +kernel) ?_
      refine vx_retZ (q := 140) (by decide +kernel) (Or.inl rfl) ?_
      exact H
    · replace H := H.2 c13
      refine vx_iconst (n := 1) (q := 135) (by decide +kernel) ?_
      refine vx_goto (off := 4) (q := 138) (t := 139) (by decide +kernel) ?_
      refine vx_retZ (q := 140) (by decide +kernel) (Or.inr rfl) ?_
      exact H
  · replace H := H.2.2.2.2 c9
    refine vx_lload_n (n := 2) (q := 141) (by decide +kernel) rfl ?_
    refine vx_lload (n := 4) (q := 143) (by decide +kernel) rfl ?_
    refine vx_lc_lt (off := 7) (p := 144) (q := 147) (t := 151) (by decide +kernel) hr3 hr6 (fun c14 => ?_) (fun c14 => ?_)
    · replace H := H.1 c14
      refine vx_iconst (n := 0) (q := 152) (by decide +kernel) ?_
      refine vx_retZ (q := 153) (by decide +kernel) (Or.inl rfl) ?_
      exact H
    · replace H := H.2 c14
      refine vx_iconst (n := 1) (q := 148) (by decide +kernel) ?_
      refine vx_goto (off := 4) (q := 151) (t := 152) (by decide +kernel) ?_
      refine vx_retZ (q := 153) (by decide +kernel) (Or.inr rfl) ?_
      exact H
-- RuleHouse$Engine.valueOf(J)J
theorem vg_127 {d : Nat} {h : ve_H} {P : Int → ve_H → Prop} {x1 : Int} (hT : vx_T 1 625 h) (H : (vx_rL x1) ∧ ((x1 < 144115188075855872 → P x1 h) ∧ (144115188075855872 ≤ x1 → ((x1 < 144115188075855880 → (0 ≤ (x1 - 144115188075855872) ∧ (x1 - 144115188075855872) < 8) ∧ P (vx_K h 31 (x1 - 144115188075855872).toNat) h) ∧ (144115188075855880 ≤ x1 → P x1 h))))) : vx_CL d 127 [.ref 21, .long (vx_l x1)] h P := by
  refine vx_enter (ml := 3) (by decide +kernel) ?_
  show vx_W _ _ 0 [some (.ref 21), some (.long (vx_l x1)), none] [] h _
  refine vx_lload_n (n := 1) (q := 1) (by decide +kernel) rfl ?_
  refine vx_ldc (idx := 242) (v := 144115188075855872) (m := 144115188075855872) (q := 4) (by decide +kernel) ?_
  obtain ⟨k1, H⟩ := H
  refine vx_lc_lt (off := 11) (p := 5) (q := 8) (t := 16) (by decide +kernel) k1 (by decide) (fun c2 => ?_) (fun c2 => ?_)
  · replace H := H.1 c2
    refine vx_lload_n (n := 1) (q := 17) (by decide +kernel) rfl ?_
    refine vx_retL (q := 18) (by decide +kernel) k1 ?_
    exact H
  · replace H := H.2 c2
    refine vx_lload_n (n := 1) (q := 9) (by decide +kernel) rfl ?_
    refine vx_ldc (idx := 265) (v := 144115188075855880) (m := 144115188075855880) (q := 12) (by decide +kernel) ?_
    refine vx_lc_lt (off := 5) (p := 13) (q := 16) (t := 18) (by decide +kernel) k1 (by decide) (fun c3 => ?_) (fun c3 => ?_)
    · replace H := H.1 c3
      refine vx_aload_n (n := 0) (q := 19) (by decide +kernel) rfl ?_
      refine vx_getR (b := 31) (idx := 18) (kd := 4) (s := 1) (fin := true) (q := 22) (by decide +kernel) (vx_Tk hT (by decide +kernel)) (vx_Tr hT (kd := 4) (by decide +kernel) (by decide +kernel) (by decide +kernel)) ?_
      refine vx_lload_n (n := 1) (q := 23) (by decide +kernel) rfl ?_
      refine vx_ldc (idx := 242) (v := 144115188075855872) (m := 144115188075855872) (q := 26) (by decide +kernel) ?_
      refine vx_lsub (q := 27) (by decide +kernel) ?_
      refine vx_l2i (q := 28) (by decide +kernel) ?_
      obtain ⟨k4, H⟩ := H
      refine vx_laload (z := 8) (q := 29) (by decide +kernel) (vx_Tk hT (by decide +kernel)) (vx_Tz hT (by decide +kernel)) (vx_ix k4 (by decide)) ?_
      refine vx_retL (q := 30) (by decide +kernel) (vx_rL_K h 31 (x1 - 144115188075855872).toNat) ?_
      exact H
    · replace H := H.2 c3
      refine vx_lload_n (n := 1) (q := 17) (by decide +kernel) rfl ?_
      refine vx_retL (q := 18) (by decide +kernel) k1 ?_
      exact H
-- RuleHouse$Engine.isOpen(JI)Z
theorem vg_128 {d : Nat} {h : ve_H} {P : Int → ve_H → Prop} {x1 : Int} {x2 : Int} (hT : vx_T 1 625 h) (H : (vx_rL x1) ∧ ((x1 < 144115188075855872 → P 0 h) ∧ (144115188075855872 ≤ x1 → ((x1 < 144115188075855880 → (((vx_and x2 (vx_shl 1 (x1 - 144115188075855872))) ≠ 0 → P 0 h) ∧ ((vx_and x2 (vx_shl 1 (x1 - 144115188075855872))) = 0 → P 1 h))) ∧ (144115188075855880 ≤ x1 → P 0 h))))) : vx_CI d 128 [.long (vx_l x1), .int (vx_i x2)] h P := by
  refine vx_enter (ml := 3) (by decide +kernel) ?_
  show vx_W _ _ 0 [some (.long (vx_l x1)), none, some (.int (vx_i x2))] [] h _
  refine vx_lload_n (n := 0) (q := 1) (by decide +kernel) rfl ?_
  refine vx_ldc (idx := 242) (v := 144115188075855872) (m := 144115188075855872) (q := 4) (by decide +kernel) ?_
  obtain ⟨k1, H⟩ := H
  refine vx_lc_lt (off := 11) (p := 5) (q := 8) (t := 16) (by decide +kernel) k1 (by decide) (fun c2 => ?_) (fun c2 => ?_)
  · replace H := H.1 c2
    refine vx_iconst (n := 0) (q := 17) (by decide +kernel) ?_
    refine vx_retZ (q := 18) (by decide +kernel) (Or.inl rfl) ?_
    exact H
  · replace H := H.2 c2
    refine vx_lload_n (n := 0) (q := 9) (by decide +kernel) rfl ?_
    refine vx_ldc (idx := 265) (v := 144115188075855880) (m := 144115188075855880) (q := 12) (by decide +kernel) ?_
    refine vx_lc_lt (off := 5) (p := 13) (q := 16) (t := 18) (by decide +kernel) k1 (by decide) (fun c3 => ?_) (fun c3 => ?_)
    · replace H := H.1 c3
      refine vx_iload_n (n := 2) (q := 19) (by decide +kernel) rfl ?_
      refine vx_iconst (n := 1) (q := 20) (by decide +kernel) ?_
      refine vx_lload_n (n := 0) (q := 21) (by decide +kernel) rfl ?_
      refine vx_ldc (idx := 242) (v := 144115188075855872) (m := 144115188075855872) (q := 24) (by decide +kernel) ?_
      refine vx_lsub (q := 25) (by decide +kernel) ?_
      refine vx_l2i (q := 26) (by decide +kernel) ?_
      refine vx_ishl (q := 27) (by decide +kernel) ?_
      refine vx_iand (q := 28) (by decide +kernel) ?_
      refine vx_if0_ne (off := 7) (q := 31) (t := 35) (by decide +kernel) (vx_rI_toInt _) (fun c4 => ?_) (fun c4 => ?_)
      · replace H := H.1 c4
        refine vx_iconst (n := 0) (q := 36) (by decide +kernel) ?_
        refine vx_retZ (q := 37) (by decide +kernel) (Or.inl rfl) ?_
        exact H
      · replace H := H.2 c4
        refine vx_iconst (n := 1) (q := 32) (by decide +kernel) ?_
        refine vx_goto (off := 4) (q := 35) (t := 36) (by decide +kernel) ?_
        refine vx_retZ (q := 37) (by decide +kernel) (Or.inr rfl) ?_
        exact H
    · replace H := H.2 c3
      refine vx_iconst (n := 0) (q := 17) (by decide +kernel) ?_
      refine vx_retZ (q := 18) (by decide +kernel) (Or.inl rfl) ?_
      exact H
-- RuleHouse$Engine.isNumber(J)Z
theorem vg_129 {d : Nat} {h : ve_H} {P : Int → ve_H → Prop} {x1 : Int} (hT : vx_T 1 625 h) (H : (vx_rL x1) ∧ ((72057594037927936 ≤ x1 → P 0 h) ∧ (x1 < 72057594037927936 → P 1 h))) : vx_CI d 129 [.long (vx_l x1)] h P := by
  refine vx_enter (ml := 2) (by decide +kernel) ?_
  show vx_W _ _ 0 [some (.long (vx_l x1)), none] [] h _
  refine vx_lload_n (n := 0) (q := 1) (by decide +kernel) rfl ?_
  refine vx_ldc (idx := 267) (v := 72057594037927936) (m := 72057594037927936) (q := 4) (by decide +kernel) ?_
  obtain ⟨k1, H⟩ := H
  refine vx_lc_ge (off := 7) (p := 5) (q := 8) (t := 12) (by decide +kernel) k1 (by decide) (fun c2 => ?_) (fun c2 => ?_)
  · replace H := H.1 c2
    refine vx_iconst (n := 0) (q := 13) (by decide +kernel) ?_
    refine vx_retZ (q := 14) (by decide +kernel) (Or.inl rfl) ?_
    exact H
  · replace H := H.2 c2
    refine vx_iconst (n := 1) (q := 9) (by decide +kernel) ?_
    refine vx_goto (off := 4) (q := 12) (t := 13) (by decide +kernel) ?_
    refine vx_retZ (q := 14) (by decide +kernel) (Or.inr rfl) ?_
    exact H
-- RuleHouse$Model.clear()V
theorem vg_131 {d : Nat} {h : ve_H} {P : ve_H → Prop}  (hT : vx_T 1 625 h) (H : vx_CV d 172 [.ref 23] h (fun h1 => vx_T 1 625 h1 → vx_CV d 217 [.ref 29, .int (vx_i ((-1)))] h1 (fun h2 => vx_T 1 625 h2 → vx_CV d 217 [.ref 30, .int (vx_i 0)] h2 (fun h3 => vx_T 1 625 h3 → P h3)))) : vx_CV (d + 1) 131 [.ref 22] h P := by
  refine vx_enter (ml := 1) (by decide +kernel) ?_
  show vx_W _ _ 0 [some (.ref 22)] [] h _
  refine vx_aload_n (n := 0) (q := 1) (by decide +kernel) rfl ?_
  refine vx_getR (b := 23) (idx := 14) (kd := 8) (s := 0) (fin := true) (q := 4) (by decide +kernel) (vx_Tk hT (by decide +kernel)) (vx_Tr hT (kd := 8) (by decide +kernel) (by decide +kernel) (by decide +kernel)) ?_
  refine vx_callV (i := .invokevirtual 33) (how := 3) (cm := 172) (np := 1) (q := 7) (args := [.ref 23]) (rest := []) (by decide +kernel) rfl rfl rfl (vx_w2 (w := 1) (ml := 1) rfl (by decide +kernel)) (vx_rcv (kd := 6) (vx_Tk hT (by decide +kernel)) (by decide +kernel)) H (fun h1 hs1 H => ?_)
  have hT1 := vx_Tsh hT hs1
  replace H := H hT1
  refine vx_aload_n (n := 0) (q := 8) (by decide +kernel) rfl ?_
  refine vx_getR (b := 29) (idx := 27) (kd := 8) (s := 3) (fin := true) (q := 11) (by decide +kernel) (vx_Tk hT1 (by decide +kernel)) (vx_Tr hT1 (kd := 8) (by decide +kernel) (by decide +kernel) (by decide +kernel)) ?_
  refine vx_iconst (n := (-1)) (q := 12) (by decide +kernel) ?_
  refine vx_callV (i := .invokestatic 36) (how := 4) (cm := 217) (np := 2) (q := 15) (args := [.ref 29, .int (vx_i ((-1)))]) (rest := []) (by decide +kernel) rfl rfl rfl (vx_w2 (w := 2) (ml := 4) rfl (by decide +kernel)) rfl H (fun h2 hs2 H => ?_)
  have hT2 := vx_Tsh hT1 hs2
  replace H := H hT2
  refine vx_aload_n (n := 0) (q := 16) (by decide +kernel) rfl ?_
  refine vx_getR (b := 30) (idx := 30) (kd := 8) (s := 4) (fin := true) (q := 19) (by decide +kernel) (vx_Tk hT2 (by decide +kernel)) (vx_Tr hT2 (kd := 8) (by decide +kernel) (by decide +kernel) (by decide +kernel)) ?_
  refine vx_iconst (n := 0) (q := 20) (by decide +kernel) ?_
  refine vx_callV (i := .invokestatic 36) (how := 4) (cm := 217) (np := 2) (q := 23) (args := [.ref 30, .int (vx_i 0)]) (rest := []) (by decide +kernel) rfl rfl rfl (vx_w2 (w := 2) (ml := 4) rfl (by decide +kernel)) rfl H (fun h3 hs3 H => ?_)
  have hT3 := vx_Tsh hT2 hs3
  replace H := H hT3
  refine vx_retV (q := 24) (by decide +kernel) ?_
  exact H
-- RuleHouse$Model.link(III)V
theorem vg_132 {d : Nat} {h : ve_H} {P : ve_H → Prop} {x1 : Int} {x2 : Int} {x3 : Int} (hT : vx_T 1 625 h) (H : (0 ≤ x1 ∧ x1 < 201) ∧ (∀ h2, h2 = vx_sJ h 27 x1.toNat x3 → vx_T 1 625 h2 → (0 ≤ x2 ∧ x2 < 16) ∧ (0 ≤ x1 ∧ x1 < 201) ∧ (∀ h5, h5 = vx_sJ h2 28 x1.toNat (vx_J h2 29 x2.toNat) → vx_T 1 625 h5 → (0 ≤ x2 ∧ x2 < 16) ∧ (∀ h7, h7 = vx_sJ h5 29 x2.toNat x1 → vx_T 1 625 h7 → (0 ≤ x2 ∧ x2 < 16) ∧ (0 ≤ x2 ∧ x2 < 16) ∧ (∀ h10, h10 = vx_sJ h7 30 x2.toNat ((vx_J h7 30 x2.toNat) + 1) → vx_T 1 625 h10 → P h10))))) : vx_CV d 132 [.ref 22, .int (vx_i x1), .int (vx_i x2), .int (vx_i x3)] h P := by
  refine vx_enter (ml := 4) (by decide +kernel) ?_
  show vx_W _ _ 0 [some (.ref 22), some (.int (vx_i x1)), some (.int (vx_i x2)), some (.int (vx_i x3))] [] h _
  refine vx_aload_n (n := 0) (q := 1) (by decide +kernel) rfl ?_
  refine vx_getR (b := 27) (idx := 20) (kd := 8) (s := 1) (fin := true) (q := 4) (by decide +kernel) (vx_Tk hT (by decide +kernel)) (vx_Tr hT (kd := 8) (by decide +kernel) (by decide +kernel) (by decide +kernel)) ?_
  refine vx_iload_n (n := 1) (q := 5) (by decide +kernel) rfl ?_
  refine vx_iload_n (n := 3) (q := 6) (by decide +kernel) rfl ?_
  obtain ⟨k1, H⟩ := H
  refine vx_iastore (z := 201) (q := 7) (by decide +kernel) (vx_Tk hT (by decide +kernel)) (vx_Tz hT (by decide +kernel)) (vx_ix k1 (by decide)) (fun h2 e2 => ?_)
  have hT2 := vx_TJ hT e2
  replace H := H h2 e2 hT2
  refine vx_aload_n (n := 0) (q := 8) (by decide +kernel) rfl ?_
  refine vx_getR (b := 28) (idx := 24) (kd := 8) (s := 2) (fin := true) (q := 11) (by decide +kernel) (vx_Tk hT2 (by decide +kernel)) (vx_Tr hT2 (kd := 8) (by decide +kernel) (by decide +kernel) (by decide +kernel)) ?_
  refine vx_iload_n (n := 1) (q := 12) (by decide +kernel) rfl ?_
  refine vx_aload_n (n := 0) (q := 13) (by decide +kernel) rfl ?_
  refine vx_getR (b := 29) (idx := 27) (kd := 8) (s := 3) (fin := true) (q := 16) (by decide +kernel) (vx_Tk hT2 (by decide +kernel)) (vx_Tr hT2 (kd := 8) (by decide +kernel) (by decide +kernel) (by decide +kernel)) ?_
  refine vx_iload_n (n := 2) (q := 17) (by decide +kernel) rfl ?_
  obtain ⟨k3, H⟩ := H
  refine vx_iaload (z := 16) (q := 18) (by decide +kernel) (vx_Tk hT2 (by decide +kernel)) (vx_Tz hT2 (by decide +kernel)) (vx_ix k3 (by decide)) ?_
  obtain ⟨k4, H⟩ := H
  refine vx_iastore (z := 201) (q := 19) (by decide +kernel) (vx_Tk hT2 (by decide +kernel)) (vx_Tz hT2 (by decide +kernel)) (vx_ix k4 (by decide)) (fun h5 e5 => ?_)
  have hT5 := vx_TJ hT2 e5
  replace H := H h5 e5 hT5
  refine vx_aload_n (n := 0) (q := 20) (by decide +kernel) rfl ?_
  refine vx_getR (b := 29) (idx := 27) (kd := 8) (s := 3) (fin := true) (q := 23) (by decide +kernel) (vx_Tk hT5 (by decide +kernel)) (vx_Tr hT5 (kd := 8) (by decide +kernel) (by decide +kernel) (by decide +kernel)) ?_
  refine vx_iload_n (n := 2) (q := 24) (by decide +kernel) rfl ?_
  refine vx_iload_n (n := 1) (q := 25) (by decide +kernel) rfl ?_
  obtain ⟨k6, H⟩ := H
  refine vx_iastore (z := 16) (q := 26) (by decide +kernel) (vx_Tk hT5 (by decide +kernel)) (vx_Tz hT5 (by decide +kernel)) (vx_ix k6 (by decide)) (fun h7 e7 => ?_)
  have hT7 := vx_TJ hT5 e7
  replace H := H h7 e7 hT7
  refine vx_aload_n (n := 0) (q := 27) (by decide +kernel) rfl ?_
  refine vx_getR (b := 30) (idx := 30) (kd := 8) (s := 4) (fin := true) (q := 30) (by decide +kernel) (vx_Tk hT7 (by decide +kernel)) (vx_Tr hT7 (kd := 8) (by decide +kernel) (by decide +kernel) (by decide +kernel)) ?_
  refine vx_iload_n (n := 2) (q := 31) (by decide +kernel) rfl ?_
  refine vx_dup2I (q := 32) (by decide +kernel) ?_
  obtain ⟨k8, H⟩ := H
  refine vx_iaload (z := 16) (q := 33) (by decide +kernel) (vx_Tk hT7 (by decide +kernel)) (vx_Tz hT7 (by decide +kernel)) (vx_ix k8 (by decide)) ?_
  refine vx_iconst (n := 1) (q := 34) (by decide +kernel) ?_
  refine vx_iadd (q := 35) (by decide +kernel) ?_
  obtain ⟨k9, H⟩ := H
  refine vx_iastore (z := 16) (q := 36) (by decide +kernel) (vx_Tk hT7 (by decide +kernel)) (vx_Tz hT7 (by decide +kernel)) (vx_ix k9 (by decide)) (fun h10 e10 => ?_)
  have hT10 := vx_TJ hT7 e10
  replace H := H h10 e10 hT10
  refine vx_retV (q := 37) (by decide +kernel) ?_
  exact H
-- RuleHouse$Model.start(I)I
theorem vg_133 {d : Nat} {h : ve_H} {P : Int → ve_H → Prop} {x1 : Int} (hT : vx_T 1 625 h) (H : vx_W d 133 4 [some (.ref 22), some (.int (vx_i x1)), some (.int (vx_i 0)), some (.int (vx_i 0))] [] h (vx_RI P)) : vx_CI d 133 [.ref 22, .int (vx_i x1)] h P := by
  refine vx_enter (ml := 4) (by decide +kernel) ?_
  show vx_W _ _ 0 [some (.ref 22), some (.int (vx_i x1)), none, none] [] h _
  refine vx_iconst (n := 0) (q := 1) (by decide +kernel) ?_
  refine vx_istore_n (n := 2) (q := 2) (lv' := [some (.ref 22), some (.int (vx_i x1)), some (.int (vx_i 0)), none]) (by decide +kernel) rfl ?_
  refine vx_iconst (n := 0) (q := 3) (by decide +kernel) ?_
  refine vx_istore_n (n := 3) (q := 4) (lv' := [some (.ref 22), some (.int (vx_i x1)), some (.int (vx_i 0)), some (.int (vx_i 0))]) (by decide +kernel) rfl ?_
  exact H
theorem vg_133_4 {d : Nat} {h : ve_H} {P : Int → ve_H → Prop} {v1 : Int} {v2 : Int} {v3 : Int} (hT : vx_T 1 625 h) (H : (vx_rI v3) ∧ (vx_rI v1) ∧ ((v1 ≤ v3 → (vx_rI v2) ∧ P v2 h) ∧ (v3 < v1 → (0 ≤ v3 ∧ v3 < 16) ∧ vx_W d 133 4 [some (.ref 22), some (.int (vx_i v1)), some (.int (vx_i (v2 + (vx_J h 30 v3.toNat)))), some (.int (vx_i (v3 + 1)))] [] h (vx_RI P)))) : vx_W d 133 4 [some (.ref 22), some (.int (vx_i v1)), some (.int (vx_i v2)), some (.int (vx_i v3))] [] h (vx_RI P) := by
  refine vx_iload_n (n := 3) (q := 5) (by decide +kernel) rfl ?_
  refine vx_iload_n (n := 1) (q := 6) (by decide +kernel) rfl ?_
  obtain ⟨k1, H⟩ := H
  obtain ⟨k2, H⟩ := H
  refine vx_icmp_ge (off := 18) (q := 9) (t := 24) (by decide +kernel) k1 k2 (fun c3 => ?_) (fun c3 => ?_)
  · replace H := H.1 c3
    refine vx_iload_n (n := 2) (q := 25) (by decide +kernel) rfl ?_
    obtain ⟨k4, H⟩ := H
    refine vx_retI (q := 26) (by decide +kernel) k4 ?_
    exact H
  · replace H := H.2 c3
    refine vx_iload_n (n := 2) (q := 10) (by decide +kernel) rfl ?_
    refine vx_aload_n (n := 0) (q := 11) (by decide +kernel) rfl ?_
    refine vx_getR (b := 30) (idx := 30) (kd := 8) (s := 4) (fin := true) (q := 14) (by decide +kernel) (vx_Tk hT (by decide +kernel)) (vx_Tr hT (kd := 8) (by decide +kernel) (by decide +kernel) (by decide +kernel)) ?_
    refine vx_iload_n (n := 3) (q := 15) (by decide +kernel) rfl ?_
    obtain ⟨k5, H⟩ := H
    refine vx_iaload (z := 16) (q := 16) (by decide +kernel) (vx_Tk hT (by decide +kernel)) (vx_Tz hT (by decide +kernel)) (vx_ix k5 (by decide)) ?_
    refine vx_iadd (q := 17) (by decide +kernel) ?_
    refine vx_istore_n (n := 2) (q := 18) (lv' := [some (.ref 22), some (.int (vx_i v1)), some (.int (vx_i (v2 + (vx_J h 30 v3.toNat)))), some (.int (vx_i v3))]) (by decide +kernel) rfl ?_
    refine vx_iinc (n := 3) (m := 1) (x := v3) (q := 21) (lv' := [some (.ref 22), some (.int (vx_i v1)), some (.int (vx_i (v2 + (vx_J h 30 v3.toNat)))), some (.int (vx_i (v3 + 1)))]) (by decide +kernel) rfl rfl ?_
    refine vx_goto (off := (-17)) (q := 24) (t := 4) (by decide +kernel) ?_
    exact H
