/-! Printed by my own program (wip/whole/gen_seg.py): walks of methods 19,20,21,27,30,57,59,60,61,62,63,64,89,91,94,95,96,97,99,101,102,103,192,193 -/
-- RuleHouseModel.thrown()I
theorem vg_19 {d : Nat} {h : ve_H} {P : Int → ve_H → Prop}  (hT : vx_T 625 672 h) (H : P (vx_J h 625 0) h) : vx_CI d 19 [.ref 625] h P := by
  refine vx_enter (ml := 1) (by decide +kernel) ?_
  show vx_W _ _ 0 [some (.ref 625)] [] h _
  refine vx_aload_n (n := 0) (q := 1) (by decide +kernel) rfl ?_
  refine vx_getI (idx := 154) (kd := 9) (s := 0) (fin := false) (q := 4) (by decide +kernel) (vx_Tk hT (by decide +kernel)) ?_
  refine vx_retI (q := 5) (by decide +kernel) (vx_rI_J h 625 0) ?_
  exact H
-- RuleHouseModel.raise(I)I
theorem vg_20 {d : Nat} {h : ve_H} {P : Int → ve_H → Prop} {x1 : Int} (hT : vx_T 625 672 h) (H : (∀ h1, h1 = vx_sJ h 625 0 x1 → vx_T 625 672 h1 → P 0 h1)) : vx_CI d 20 [.ref 625, .int (vx_i x1)] h P := by
  refine vx_enter (ml := 2) (by decide +kernel) ?_
  show vx_W _ _ 0 [some (.ref 625), some (.int (vx_i x1))] [] h _
  refine vx_aload_n (n := 0) (q := 1) (by decide +kernel) rfl ?_
  refine vx_iload_n (n := 1) (q := 2) (by decide +kernel) rfl ?_
  refine vx_putI (idx := 154) (kd := 9) (s := 0) (fin := false) (q := 5) (by decide +kernel) (vx_Tk hT (by decide +kernel)) (fun h1 e1 => ?_)
  have hT1 := vx_TJ hT e1
  replace H := H h1 e1 hT1
  refine vx_iconst (n := 0) (q := 6) (by decide +kernel) ?_
  refine vx_retI (q := 7) (by decide +kernel) (by decide) ?_
  exact H
-- RuleHouseModel.type(JI)Z
theorem vg_21 {d : Nat} {h : ve_H} {P : Int → ve_H → Prop} {x1 : Int} {x2 : Int} (hT : vx_T 625 672 h) (H : (∀ h1, h1 = vx_sJ h 625 0 0 → vx_T 625 672 h1 → (vx_rI x2) ∧ ((x2 < 1 → P 0 h1) ∧ (1 ≤ x2 → ((8 < x2 → P 0 h1) ∧ (x2 ≤ 8 → (vx_rI ((vx_J h1 625 2) + x2)) ∧ ((((vx_J h1 625 2) + x2) ≤ 600 → vx_W d 21 33 [some (.ref 625), some (.long (vx_l x1)), none, some (.int (vx_i x2)), some (.int (vx_i 0)), none] [] h1 (vx_RI P)) ∧ (600 < ((vx_J h1 625 2) + x2) → P 0 h1)))))))) : vx_CI d 21 [.ref 625, .long (vx_l x1), .int (vx_i x2)] h P := by
  refine vx_enter (ml := 6) (by decide +kernel) ?_
  show vx_W _ _ 0 [some (.ref 625), some (.long (vx_l x1)), none, some (.int (vx_i x2)), none, none] [] h _
  refine vx_aload_n (n := 0) (q := 1) (by decide +kernel) rfl ?_
  refine vx_iconst (n := 0) (q := 2) (by decide +kernel) ?_
  refine vx_putI (idx := 154) (kd := 9) (s := 0) (fin := false) (q := 5) (by decide +kernel) (vx_Tk hT (by decide +kernel)) (fun h1 e1 => ?_)
  have hT1 := vx_TJ hT e1
  replace H := H h1 e1 hT1
  refine vx_iload_n (n := 3) (q := 6) (by decide +kernel) rfl ?_
  refine vx_iconst (n := 1) (q := 7) (by decide +kernel) ?_
  obtain ⟨k2, H⟩ := H
  refine vx_icmp_lt (off := 21) (q := 10) (t := 28) (by decide +kernel) k2 (by decide) (fun c3 => ?_) (fun c3 => ?_)
  · replace H := H.1 c3
    refine vx_iconst (n := 0) (q := 29) (by decide +kernel) ?_
    refine vx_retZ (q := 30) (by decide +kernel) (Or.inl rfl) ?_
    exact H
  · replace H := H.2 c3
    refine vx_iload_n (n := 3) (q := 11) (by decide +kernel) rfl ?_
    refine vx_bipush (n := 8) (q := 13) (by decide +kernel) ?_
    refine vx_icmp_gt (off := 15) (q := 16) (t := 28) (by decide +kernel) k2 (by decide) (fun c4 => ?_) (fun c4 => ?_)
    · replace H := H.1 c4
      refine vx_iconst (n := 0) (q := 29) (by decide +kernel) ?_
      refine vx_retZ (q := 30) (by decide +kernel) (Or.inl rfl) ?_
      exact H
    · replace H := H.2 c4
      refine vx_aload_n (n := 0) (q := 17) (by decide +kernel) rfl ?_
      refine vx_getI (idx := 157) (kd := 9) (s := 2) (fin := false) (q := 20) (by decide +kernel) (vx_Tk hT1 (by decide +kernel)) ?_
      refine vx_iload_n (n := 3) (q := 21) (by decide +kernel) rfl ?_
      refine vx_iadd (q := 22) (by decide +kernel) ?_
      refine vx_sipush (n := 600) (q := 25) (by decide +kernel) ?_
      obtain ⟨k5, H⟩ := H
      refine vx_icmp_le (off := 5) (q := 28) (t := 30) (by decide +kernel) k5 (by decide) (fun c6 => ?_) (fun c6 => ?_)
      · replace H := H.1 c6
        refine vx_iconst (n := 0) (q := 31) (by decide +kernel) ?_
        refine vx_istore (n := 4) (q := 33) (lv' := [some (.ref 625), some (.long (vx_l x1)), none, some (.int (vx_i x2)), some (.int (vx_i 0)), none]) (by decide +kernel) rfl ?_
        exact H
      · replace H := H.2 c6
        refine vx_iconst (n := 0) (q := 29) (by decide +kernel) ?_
        refine vx_retZ (q := 30) (by decide +kernel) (Or.inl rfl) ?_
        exact H
theorem vg_21_33 {d : Nat} {h : ve_H} {P : Int → ve_H → Prop} {v1 : Int} {v3 : Int} {v4 : Int} {v5 : Option Value} (hT : vx_T 625 672 h) (H : (vx_rI v4) ∧ (vx_rI v3) ∧ ((v3 ≤ v4 → vx_W d 21 80 [some (.ref 625), some (.long (vx_l v1)), none, some (.int (vx_i v3)), some (.int (vx_i (v3 - 1))), v5] [] h (vx_RI P)) ∧ (v4 < v3 → (vx_rI (vx_land (vx_lshr v1 (8 * v4)) 255)) ∧ (((vx_land (vx_lshr v1 (8 * v4)) 255) < 32 → P 0 h) ∧ (32 ≤ (vx_land (vx_lshr v1 (8 * v4)) 255) → (((vx_land (vx_lshr v1 (8 * v4)) 255) ≤ 126 → vx_W d 21 33 [some (.ref 625), some (.long (vx_l v1)), none, some (.int (vx_i v3)), some (.int (vx_i (v4 + 1))), some (.int (vx_i (vx_land (vx_lshr v1 (8 * v4)) 255)))] [] h (vx_RI P)) ∧ (126 < (vx_land (vx_lshr v1 (8 * v4)) 255) → P 0 h))))))) : vx_W d 21 33 [some (.ref 625), some (.long (vx_l v1)), none, some (.int (vx_i v3)), some (.int (vx_i v4)), v5] [] h (vx_RI P) := by
  refine vx_iload (n := 4) (q := 35) (by decide +kernel) rfl ?_
  refine vx_iload_n (n := 3) (q := 36) (by decide +kernel) rfl ?_
  obtain ⟨k1, H⟩ := H
  obtain ⟨k2, H⟩ := H
  refine vx_icmp_ge (off := 39) (q := 39) (t := 75) (by decide +kernel) k1 k2 (fun c3 => ?_) (fun c3 => ?_)
  · replace H := H.1 c3
    refine vx_iload_n (n := 3) (q := 76) (by decide +kernel) rfl ?_
    refine vx_iconst (n := 1) (q := 77) (by decide +kernel) ?_
    refine vx_isub (q := 78) (by decide +kernel) ?_
    refine vx_istore (n := 4) (q := 80) (lv' := [some (.ref 625), some (.long (vx_l v1)), none, some (.int (vx_i v3)), some (.int (vx_i (v3 - 1))), v5]) (by decide +kernel) rfl ?_
    exact H
  · replace H := H.2 c3
    refine vx_lload_n (n := 1) (q := 40) (by decide +kernel) rfl ?_
    refine vx_bipush (n := 8) (q := 42) (by decide +kernel) ?_
    refine vx_iload (n := 4) (q := 44) (by decide +kernel) rfl ?_
    refine vx_imul (q := 45) (by decide +kernel) ?_
    refine vx_lshr1 (q := 46) (by decide +kernel) ?_
    refine vx_ldc (idx := 160) (v := 255) (m := 255) (q := 49) (by decide +kernel) ?_
    refine vx_land1 (q := 50) (by decide +kernel) ?_
    refine vx_l2i (q := 51) (by decide +kernel) ?_
    refine vx_istore (n := 5) (q := 53) (lv' := [some (.ref 625), some (.long (vx_l v1)), none, some (.int (vx_i v3)), some (.int (vx_i v4)), some (.int (vx_i (vx_land (vx_lshr v1 (8 * v4)) 255)))]) (by decide +kernel) rfl ?_
    refine vx_iload (n := 5) (q := 55) (by decide +kernel) rfl ?_
    refine vx_bipush (n := 32) (q := 57) (by decide +kernel) ?_
    obtain ⟨k4, H⟩ := H
    refine vx_icmp_lt (off := 10) (q := 60) (t := 67) (by decide +kernel) k4 (by decide) (fun c5 => ?_) (fun c5 => ?_)
    · replace H := H.1 c5
      refine vx_iconst (n := 0) (q := 68) (by decide +kernel) ?_
      refine vx_retZ (q := 69) (by decide +kernel) (Or.inl rfl) ?_
      exact H
    · replace H := H.2 c5
      refine vx_iload (n := 5) (q := 62) (by decide +kernel) rfl ?_
      refine vx_bipush (n := 126) (q := 64) (by decide +kernel) ?_
      refine vx_icmp_le (off := 5) (q := 67) (t := 69) (by decide +kernel) k4 (by decide) (fun c6 => ?_) (fun c6 => ?_)
      · replace H := H.1 c6
        refine vx_iinc (n := 4) (m := 1) (x := v4) (q := 72) (lv' := [some (.ref 625), some (.long (vx_l v1)), none, some (.int (vx_i v3)), some (.int (vx_i (v4 + 1))), some (.int (vx_i (vx_land (vx_lshr v1 (8 * v4)) 255)))]) (by decide +kernel) rfl rfl ?_
        refine vx_goto (off := (-39)) (q := 75) (t := 33) (by decide +kernel) ?_
        exact H
      · replace H := H.2 c6
        refine vx_iconst (n := 0) (q := 68) (by decide +kernel) ?_
        refine vx_retZ (q := 69) (by decide +kernel) (Or.inl rfl) ?_
        exact H
theorem vg_21_80 {d : Nat} {h : ve_H} {P : Int → ve_H → Prop} {v1 : Int} {v3 : Int} {v4 : Int} {v5 : Option Value} (hT : vx_T 625 672 h) (H : (vx_rI v4) ∧ ((v4 < 0 → P 1 h) ∧ (0 ≤ v4 → (0 ≤ (vx_J h 625 2) ∧ (vx_J h 625 2) < 600) ∧ (∀ h4, h4 = vx_sJ h 626 (vx_J h 625 2).toNat (vx_land (vx_lshr v1 (8 * v4)) 255) → vx_T 625 672 h4 → (∀ h5, h5 = vx_sJ h4 625 2 ((vx_J h4 625 2) + 1) → vx_T 625 672 h5 → vx_W d 21 80 [some (.ref 625), some (.long (vx_l v1)), none, some (.int (vx_i v3)), some (.int (vx_i (v4 + (-1)))), v5] [] h5 (vx_RI P)))))) : vx_W d 21 80 [some (.ref 625), some (.long (vx_l v1)), none, some (.int (vx_i v3)), some (.int (vx_i v4)), v5] [] h (vx_RI P) := by
  refine vx_iload (n := 4) (q := 82) (by decide +kernel) rfl ?_
  obtain ⟨k1, H⟩ := H
  refine vx_if0_lt (off := 40) (q := 85) (t := 122) (by decide +kernel) k1 (fun c2 => ?_) (fun c2 => ?_)
  · replace H := H.1 c2
    refine vx_iconst (n := 1) (q := 123) (by decide +kernel) ?_
    refine vx_retZ (q := 124) (by decide +kernel) (Or.inr rfl) ?_
    exact H
  · replace H := H.2 c2
    refine vx_aload_n (n := 0) (q := 86) (by decide +kernel) rfl ?_
    refine vx_getR (b := 626) (idx := 7) (kd := 9) (s := 1) (fin := true) (q := 89) (by decide +kernel) (vx_Tk hT (by decide +kernel)) (vx_Tr hT (kd := 9) (by decide +kernel) (by decide +kernel) (by decide +kernel)) ?_
    refine vx_aload_n (n := 0) (q := 90) (by decide +kernel) rfl ?_
    refine vx_getI (idx := 157) (kd := 9) (s := 2) (fin := false) (q := 93) (by decide +kernel) (vx_Tk hT (by decide +kernel)) ?_
    refine vx_lload_n (n := 1) (q := 94) (by decide +kernel) rfl ?_
    refine vx_bipush (n := 8) (q := 96) (by decide +kernel) ?_
    refine vx_iload (n := 4) (q := 98) (by decide +kernel) rfl ?_
    refine vx_imul (q := 99) (by decide +kernel) ?_
    refine vx_lshr1 (q := 100) (by decide +kernel) ?_
    refine vx_ldc (idx := 160) (v := 255) (m := 255) (q := 103) (by decide +kernel) ?_
    refine vx_land1 (q := 104) (by decide +kernel) ?_
    refine vx_l2i (q := 105) (by decide +kernel) ?_
    obtain ⟨k3, H⟩ := H
    refine vx_iastore (z := 600) (q := 106) (by decide +kernel) (vx_Tk hT (by decide +kernel)) (vx_Tz hT (by decide +kernel)) (vx_ix k3 (by decide)) (fun h4 e4 => ?_)
    have hT4 := vx_TJ hT e4
    replace H := H h4 e4 hT4
    refine vx_aload_n (n := 0) (q := 107) (by decide +kernel) rfl ?_
    refine vx_dupR (q := 108) (by decide +kernel) ?_
    refine vx_getI (idx := 157) (kd := 9) (s := 2) (fin := false) (q := 111) (by decide +kernel) (vx_Tk hT4 (by decide +kernel)) ?_
    refine vx_iconst (n := 1) (q := 112) (by decide +kernel) ?_
    refine vx_iadd (q := 113) (by decide +kernel) ?_
    refine vx_putI (idx := 157) (kd := 9) (s := 2) (fin := false) (q := 116) (by decide +kernel) (vx_Tk hT4 (by decide +kernel)) (fun h5 e5 => ?_)
    have hT5 := vx_TJ hT4 e5
    replace H := H h5 e5 hT5
    refine vx_iinc (n := 4) (m := (-1)) (x := v4) (q := 119) (lv' := [some (.ref 625), some (.long (vx_l v1)), none, some (.int (vx_i v3)), some (.int (vx_i (v4 + (-1)))), v5]) (by decide +kernel) rfl rfl ?_
    refine vx_goto (off := (-39)) (q := 122) (t := 80) (by decide +kernel) ?_
    exact H
-- RuleHouseModel.token(IIIJ)V
theorem vg_27 {d : Nat} {h : ve_H} {P : ve_H → Prop} {x1 : Int} {x2 : Int} {x3 : Int} {x4 : Int} (hT : vx_T 625 672 h) (H : (0 ≤ (vx_J h 625 5) ∧ (vx_J h 625 5) < 602) ∧ (∀ h2, h2 = vx_sJ h 627 (vx_J h 625 5).toNat x1 → vx_T 625 672 h2 → (0 ≤ (vx_J h2 625 5) ∧ (vx_J h2 625 5) < 602) ∧ (∀ h4, h4 = vx_sJ h2 629 (vx_J h2 625 5).toNat x2 → vx_T 625 672 h4 → (0 ≤ (vx_J h4 625 5) ∧ (vx_J h4 625 5) < 602) ∧ (∀ h6, h6 = vx_sJ h4 628 (vx_J h4 625 5).toNat x3 → vx_T 625 672 h6 → (0 ≤ (vx_J h6 625 5) ∧ (vx_J h6 625 5) < 602) ∧ (∀ h8, h8 = vx_sK h6 630 (vx_J h6 625 5).toNat x4 → vx_T 625 672 h8 → (∀ h9, h9 = vx_sJ h8 625 5 ((vx_J h8 625 5) + 1) → vx_T 625 672 h9 → P h9)))))) : vx_CV d 27 [.ref 625, .int (vx_i x1), .int (vx_i x2), .int (vx_i x3), .long (vx_l x4)] h P := by
  refine vx_enter (ml := 6) (by decide +kernel) ?_
  show vx_W _ _ 0 [some (.ref 625), some (.int (vx_i x1)), some (.int (vx_i x2)), some (.int (vx_i x3)), some (.long (vx_l x4)), none] [] h _
  refine vx_aload_n (n := 0) (q := 1) (by decide +kernel) rfl ?_
  refine vx_getR (b := 627) (idx := 13) (kd := 9) (s := 6) (fin := true) (q := 4) (by decide +kernel) (vx_Tk hT (by decide +kernel)) (vx_Tr hT (kd := 9) (by decide +kernel) (by decide +kernel) (by decide +kernel)) ?_
  refine vx_aload_n (n := 0) (q := 5) (by decide +kernel) rfl ?_
  refine vx_getI (idx := 172) (kd := 9) (s := 5) (fin := false) (q := 8) (by decide +kernel) (vx_Tk hT (by decide +kernel)) ?_
  refine vx_iload_n (n := 1) (q := 9) (by decide +kernel) rfl ?_
  obtain ⟨k1, H⟩ := H
  refine vx_iastore (z := 602) (q := 10) (by decide +kernel) (vx_Tk hT (by decide +kernel)) (vx_Tz hT (by decide +kernel)) (vx_ix k1 (by decide)) (fun h2 e2 => ?_)
  have hT2 := vx_TJ hT e2
  replace H := H h2 e2 hT2
  refine vx_aload_n (n := 0) (q := 11) (by decide +kernel) rfl ?_
  refine vx_getR (b := 629) (idx := 19) (kd := 9) (s := 8) (fin := true) (q := 14) (by decide +kernel) (vx_Tk hT2 (by decide +kernel)) (vx_Tr hT2 (kd := 9) (by decide +kernel) (by decide +kernel) (by decide +kernel)) ?_
  refine vx_aload_n (n := 0) (q := 15) (by decide +kernel) rfl ?_
  refine vx_getI (idx := 172) (kd := 9) (s := 5) (fin := false) (q := 18) (by decide +kernel) (vx_Tk hT2 (by decide +kernel)) ?_
  refine vx_iload_n (n := 2) (q := 19) (by decide +kernel) rfl ?_
  obtain ⟨k3, H⟩ := H
  refine vx_iastore (z := 602) (q := 20) (by decide +kernel) (vx_Tk hT2 (by decide +kernel)) (vx_Tz hT2 (by decide +kernel)) (vx_ix k3 (by decide)) (fun h4 e4 => ?_)
  have hT4 := vx_TJ hT2 e4
  replace H := H h4 e4 hT4
  refine vx_aload_n (n := 0) (q := 21) (by decide +kernel) rfl ?_
  refine vx_getR (b := 628) (idx := 16) (kd := 9) (s := 7) (fin := true) (q := 24) (by decide +kernel) (vx_Tk hT4 (by decide +kernel)) (vx_Tr hT4 (kd := 9) (by decide +kernel) (by decide +kernel) (by decide +kernel)) ?_
  refine vx_aload_n (n := 0) (q := 25) (by decide +kernel) rfl ?_
  refine vx_getI (idx := 172) (kd := 9) (s := 5) (fin := false) (q := 28) (by decide +kernel) (vx_Tk hT4 (by decide +kernel)) ?_
  refine vx_iload_n (n := 3) (q := 29) (by decide +kernel) rfl ?_
  obtain ⟨k5, H⟩ := H
  refine vx_iastore (z := 602) (q := 30) (by decide +kernel) (vx_Tk hT4 (by decide +kernel)) (vx_Tz hT4 (by decide +kernel)) (vx_ix k5 (by decide)) (fun h6 e6 => ?_)
  have hT6 := vx_TJ hT4 e6
  replace H := H h6 e6 hT6
  refine vx_aload_n (n := 0) (q := 31) (by decide +kernel) rfl ?_
  refine vx_getR (b := 630) (idx := 22) (kd := 9) (s := 9) (fin := true) (q := 34) (by decide +kernel) (vx_Tk hT6 (by decide +kernel)) (vx_Tr hT6 (kd := 9) (by decide +kernel) (by decide +kernel) (by decide +kernel)) ?_
  refine vx_aload_n (n := 0) (q := 35) (by decide +kernel) rfl ?_
  refine vx_getI (idx := 172) (kd := 9) (s := 5) (fin := false) (q := 38) (by decide +kernel) (vx_Tk hT6 (by decide +kernel)) ?_
  refine vx_lload (n := 4) (q := 40) (by decide +kernel) rfl ?_
  obtain ⟨k7, H⟩ := H
  refine vx_lastore (z := 602) (q := 41) (by decide +kernel) (vx_Tk hT6 (by decide +kernel)) (vx_Tz hT6 (by decide +kernel)) (vx_ix k7 (by decide)) (fun h8 e8 => ?_)
  have hT8 := vx_TK hT6 e8
  replace H := H h8 e8 hT8
  refine vx_aload_n (n := 0) (q := 42) (by decide +kernel) rfl ?_
  refine vx_dupR (q := 43) (by decide +kernel) ?_
  refine vx_getI (idx := 172) (kd := 9) (s := 5) (fin := false) (q := 46) (by decide +kernel) (vx_Tk hT8 (by decide +kernel)) ?_
  refine vx_iconst (n := 1) (q := 47) (by decide +kernel) ?_
  refine vx_iadd (q := 48) (by decide +kernel) ?_
  refine vx_putI (idx := 172) (kd := 9) (s := 5) (fin := false) (q := 51) (by decide +kernel) (vx_Tk hT8 (by decide +kernel)) (fun h9 e9 => ?_)
  have hT9 := vx_TJ hT8 e9
  replace H := H h9 e9 hT9
  refine vx_retV (q := 52) (by decide +kernel) ?_
  exact H
-- RuleHouseModel.tokenize()V
theorem vg_30 {d : Nat} {h : ve_H} {P : ve_H → Prop}  (hT : vx_T 625 672 h) (H : (∀ h1, h1 = vx_sJ h 625 5 0 → vx_T 625 672 h1 → vx_W (d + 1) 30 9 [some (.ref 625), some (.int (vx_i 0)), some (.int (vx_i 1))] [] h1 (vx_RV P))) : vx_CV (d + 1) 30 [.ref 625] h P := by
  refine vx_enter (ml := 3) (by decide +kernel) ?_
  show vx_W _ _ 0 [some (.ref 625), none, none] [] h _
  refine vx_aload_n (n := 0) (q := 1) (by decide +kernel) rfl ?_
  refine vx_iconst (n := 0) (q := 2) (by decide +kernel) ?_
  refine vx_putI (idx := 172) (kd := 9) (s := 5) (fin := false) (q := 5) (by decide +kernel) (vx_Tk hT (by decide +kernel)) (fun h1 e1 => ?_)
  have hT1 := vx_TJ hT e1
  replace H := H h1 e1 hT1
  refine vx_iconst (n := 0) (q := 6) (by decide +kernel) ?_
  refine vx_istore_n (n := 1) (q := 7) (lv' := [some (.ref 625), some (.int (vx_i 0)), none]) (by decide +kernel) rfl ?_
  refine vx_iconst (n := 1) (q := 8) (by decide +kernel) ?_
  refine vx_istore_n (n := 2) (q := 9) (lv' := [some (.ref 625), some (.int (vx_i 0)), some (.int (vx_i 1))]) (by decide +kernel) rfl ?_
  exact H
theorem vg_30_9 {d : Nat} {h : ve_H} {P : ve_H → Prop} {v1 : Int} {v2 : Int} (hT : vx_T 625 672 h) (H : (vx_rI v2) ∧ ((v2 = 0 → vx_CV d 27 [.ref 625, .int (vx_i 0), .int (vx_i 0), .int (vx_i (vx_J h 625 2)), .long (vx_l 0)] h (fun h3 => vx_T 625 672 h3 → P h3)) ∧ (v2 ≠ 0 → (vx_rI v1) ∧ (((vx_J h 625 2) ≤ v1 → vx_CV d 27 [.ref 625, .int (vx_i 0), .int (vx_i 0), .int (vx_i (vx_J h 625 2)), .long (vx_l 0)] h (fun h6 => vx_T 625 672 h6 → P h6)) ∧ (v1 < (vx_J h 625 2) → (0 ≤ v1 ∧ v1 < 600) ∧ (((vx_J h 626 v1.toNat) ≠ 32 → vx_CI d 31 [.ref 625, .int (vx_i v1)] h (fun r9 h9 => vx_T 625 672 h9 → (0 ≤ ((vx_J h9 625 5) - 1) ∧ ((vx_J h9 625 5) - 1) < 602) ∧ (((vx_J h9 627 ((vx_J h9 625 5) - 1).toNat) = 6 → vx_W (d + 1) 30 9 [some (.ref 625), some (.int (vx_i r9)), some (.int (vx_i 0))] [] h9 (vx_RV P)) ∧ ((vx_J h9 627 ((vx_J h9 625 5) - 1).toNat) ≠ 6 → vx_W (d + 1) 30 9 [some (.ref 625), some (.int (vx_i r9)), some (.int (vx_i 1))] [] h9 (vx_RV P))))) ∧ ((vx_J h 626 v1.toNat) = 32 → vx_W (d + 1) 30 9 [some (.ref 625), some (.int (vx_i (v1 + 1))), some (.int (vx_i v2))] [] h (vx_RV P)))))))) : vx_W (d + 1) 30 9 [some (.ref 625), some (.int (vx_i v1)), some (.int (vx_i v2))] [] h (vx_RV P) := by
  refine vx_iload_n (n := 2) (q := 10) (by decide +kernel) rfl ?_
  obtain ⟨k1, H⟩ := H
  refine vx_if0_eq (off := 59) (q := 13) (t := 69) (by decide +kernel) k1 (fun c2 => ?_) (fun c2 => ?_)
  · replace H := H.1 c2
    refine vx_aload_n (n := 0) (q := 70) (by decide +kernel) rfl ?_
    refine vx_iconst (n := 0) (q := 71) (by decide +kernel) ?_
    refine vx_iconst (n := 0) (q := 72) (by decide +kernel) ?_
    refine vx_aload_n (n := 0) (q := 73) (by decide +kernel) rfl ?_
    refine vx_getI (idx := 157) (kd := 9) (s := 2) (fin := false) (q := 76) (by decide +kernel) (vx_Tk hT (by decide +kernel)) ?_
    refine vx_lconst (n := 0) (m := 0) (q := 77) (by decide +kernel) ?_
    refine vx_callV (i := .invokevirtual 183) (how := 3) (cm := 27) (np := 5) (q := 80) (args := [.ref 625, .int (vx_i 0), .int (vx_i 0), .int (vx_i (vx_J h 625 2)), .long (vx_l 0)]) (rest := []) (by decide +kernel) rfl rfl rfl (vx_w2 (w := 6) (ml := 6) rfl (by decide +kernel)) (vx_rcv (kd := 9) (vx_Tk hT (by decide +kernel)) (by decide +kernel)) H (fun h3 hs3 H => ?_)
    have hT3 := vx_Tsh hT hs3
    replace H := H hT3
    refine vx_retV (q := 81) (by decide +kernel) ?_
    exact H
  · replace H := H.2 c2
    refine vx_iload_n (n := 1) (q := 14) (by decide +kernel) rfl ?_
    refine vx_aload_n (n := 0) (q := 15) (by decide +kernel) rfl ?_
    refine vx_getI (idx := 157) (kd := 9) (s := 2) (fin := false) (q := 18) (by decide +kernel) (vx_Tk hT (by decide +kernel)) ?_
    obtain ⟨k4, H⟩ := H
    refine vx_icmp_ge (off := 51) (q := 21) (t := 69) (by decide +kernel) k4 (vx_rI_J h 625 2) (fun c5 => ?_) (fun c5 => ?_)
    · replace H := H.1 c5
      refine vx_aload_n (n := 0) (q := 70) (by decide +kernel) rfl ?_
      refine vx_iconst (n := 0) (q := 71) (by decide +kernel) ?_
      refine vx_iconst (n := 0) (q := 72) (by decide +kernel) ?_
      refine vx_aload_n (n := 0) (q := 73) (by decide +kernel) rfl ?_
      refine vx_getI (idx := 157) (kd := 9) (s := 2) (fin := false) (q := 76) (by decide +kernel) (vx_Tk hT (by decide +kernel)) ?_
      refine vx_lconst (n := 0) (m := 0) (q := 77) (by decide +kernel) ?_
      refine vx_callV (i := .invokevirtual 183) (how := 3) (cm := 27) (np := 5) (q := 80) (args := [.ref 625, .int (vx_i 0), .int (vx_i 0), .int (vx_i (vx_J h 625 2)), .long (vx_l 0)]) (rest := []) (by decide +kernel) rfl rfl rfl (vx_w2 (w := 6) (ml := 6) rfl (by decide +kernel)) (vx_rcv (kd := 9) (vx_Tk hT (by decide +kernel)) (by decide +kernel)) H (fun h6 hs6 H => ?_)
      have hT6 := vx_Tsh hT hs6
      replace H := H hT6
      refine vx_retV (q := 81) (by decide +kernel) ?_
      exact H
    · replace H := H.2 c5
      refine vx_aload_n (n := 0) (q := 22) (by decide +kernel) rfl ?_
      refine vx_getR (b := 626) (idx := 7) (kd := 9) (s := 1) (fin := true) (q := 25) (by decide +kernel) (vx_Tk hT (by decide +kernel)) (vx_Tr hT (kd := 9) (by decide +kernel) (by decide +kernel) (by decide +kernel)) ?_
      refine vx_iload_n (n := 1) (q := 26) (by decide +kernel) rfl ?_
      obtain ⟨k7, H⟩ := H
      refine vx_iaload (z := 600) (q := 27) (by decide +kernel) (vx_Tk hT (by decide +kernel)) (vx_Tz hT (by decide +kernel)) (vx_ix k7 (by decide)) ?_
      refine vx_bipush (n := 32) (q := 29) (by decide +kernel) ?_
      refine vx_icmp_ne (off := 9) (q := 32) (t := 38) (by decide +kernel) (vx_rI_J h 626 v1.toNat) (by decide) (fun c8 => ?_) (fun c8 => ?_)
      · replace H := H.1 c8
        refine vx_aload_n (n := 0) (q := 39) (by decide +kernel) rfl ?_
        refine vx_iload_n (n := 1) (q := 40) (by decide +kernel) rfl ?_
        refine vx_callI (i := .invokevirtual 179) (how := 3) (cm := 31) (np := 2) (q := 43) (args := [.ref 625, .int (vx_i v1)]) (rest := []) (by decide +kernel) rfl rfl rfl (vx_w2 (w := 2) (ml := 9) rfl (by decide +kernel)) (vx_rcv (kd := 9) (vx_Tk hT (by decide +kernel)) (by decide +kernel)) H (fun r9 h9 hr9 hs9 H => ?_)
        have hT9 := vx_Tsh hT hs9
        replace H := H hT9
        refine vx_istore_n (n := 1) (q := 44) (lv' := [some (.ref 625), some (.int (vx_i r9)), some (.int (vx_i v2))]) (by decide +kernel) rfl ?_
        refine vx_aload_n (n := 0) (q := 45) (by decide +kernel) rfl ?_
        refine vx_getR (b := 627) (idx := 13) (kd := 9) (s := 6) (fin := true) (q := 48) (by decide +kernel) (vx_Tk hT9 (by decide +kernel)) (vx_Tr hT9 (kd := 9) (by decide +kernel) (by decide +kernel) (by decide +kernel)) ?_
        refine vx_aload_n (n := 0) (q := 49) (by decide +kernel) rfl ?_
        refine vx_getI (idx := 172) (kd := 9) (s := 5) (fin := false) (q := 52) (by decide +kernel) (vx_Tk hT9 (by decide +kernel)) ?_
        refine vx_iconst (n := 1) (q := 53) (by decide +kernel) ?_
        refine vx_isub (q := 54) (by decide +kernel) ?_
        obtain ⟨k10, H⟩ := H
        refine vx_iaload (z := 602) (q := 55) (by decide +kernel) (vx_Tk hT9 (by decide +kernel)) (vx_Tz hT9 (by decide +kernel)) (vx_ix k10 (by decide)) ?_
        refine vx_bipush (n := 6) (q := 57) (by decide +kernel) ?_
        refine vx_icmp_eq (off := 7) (q := 60) (t := 64) (by decide +kernel) (vx_rI_J h9 627 ((vx_J h9 625 5) - 1).toNat) (by decide) (fun c11 => ?_) (fun c11 => ?_)
        · replace H := H.1 c11
          refine vx_iconst (n := 0) (q := 65) (by decide +kernel) ?_
          refine vx_istore_n (n := 2) (q := 66) (lv' := [some (.ref 625), some (.int (vx_i r9)), some (.int (vx_i 0))]) (by decide +kernel) rfl ?_
          refine vx_goto (off := (-57)) (q := 69) (t := 9) (by decide +kernel) ?_
          exact H
        · replace H := H.2 c11
          refine vx_iconst (n := 1) (q := 61) (by decide +kernel) ?_
          refine vx_goto (off := 4) (q := 64) (t := 65) (by decide +kernel) ?_
          refine vx_istore_n (n := 2) (q := 66) (lv' := [some (.ref 625), some (.int (vx_i r9)), some (.int (vx_i 1))]) (by decide +kernel) rfl ?_
          refine vx_goto (off := (-57)) (q := 69) (t := 9) (by decide +kernel) ?_
          exact H
      · replace H := H.2 c8
        refine vx_iinc (n := 1) (m := 1) (x := v1) (q := 35) (lv' := [some (.ref 625), some (.int (vx_i (v1 + 1))), some (.int (vx_i v2))]) (by decide +kernel) rfl rfl ?_
        refine vx_goto (off := (-26)) (q := 38) (t := 9) (by decide +kernel) ?_
        exact H
-- RuleHouseModel.lookHangs()V
theorem vg_57 {d : Nat} {h : ve_H} {P : ve_H → Prop}  (hT : vx_T 625 672 h) (H : vx_W (d + 1) 57 2 [some (.ref 625), some (.int (vx_i 0)), none, none] [] h (vx_RV P)) : vx_CV (d + 1) 57 [.ref 625] h P := by
  refine vx_enter (ml := 4) (by decide +kernel) ?_
  show vx_W _ _ 0 [some (.ref 625), none, none, none] [] h _
  refine vx_iconst (n := 0) (q := 1) (by decide +kernel) ?_
  refine vx_istore_n (n := 1) (q := 2) (lv' := [some (.ref 625), some (.int (vx_i 0)), none, none]) (by decide +kernel) rfl ?_
  exact H
theorem vg_57_2 {d : Nat} {h : ve_H} {P : ve_H → Prop} {v1 : Int} (hT : vx_T 625 672 h) (H : (vx_rI v1) ∧ ((256 ≤ v1 → vx_W (d + 1) 57 30 [some (.ref 625), some (.int (vx_i (30 * (vx_J h 625 48)))), none, none] [] h (vx_RV P)) ∧ (v1 < 256 → (0 ≤ v1 ∧ v1 < 256) ∧ (∀ h4, h4 = vx_sJ h 663 v1.toNat 0 → vx_T 625 672 h4 → vx_W (d + 1) 57 2 [some (.ref 625), some (.int (vx_i (v1 + 1))), none, none] [] h4 (vx_RV P))))) : vx_W (d + 1) 57 2 [some (.ref 625), some (.int (vx_i v1)), none, none] [] h (vx_RV P) := by
  refine vx_iload_n (n := 1) (q := 3) (by decide +kernel) rfl ?_
  refine vx_sipush (n := 256) (q := 6) (by decide +kernel) ?_
  obtain ⟨k1, H⟩ := H
  refine vx_icmp_ge (off := 16) (q := 9) (t := 22) (by decide +kernel) k1 (by decide) (fun c2 => ?_) (fun c2 => ?_)
  · replace H := H.1 c2
    refine vx_bipush (n := 30) (q := 24) (by decide +kernel) ?_
    refine vx_aload_n (n := 0) (q := 25) (by decide +kernel) rfl ?_
    refine vx_getI (idx := 238) (kd := 9) (s := 48) (fin := false) (q := 28) (by decide +kernel) (vx_Tk hT (by decide +kernel)) ?_
    refine vx_imul (q := 29) (by decide +kernel) ?_
    refine vx_istore_n (n := 1) (q := 30) (lv' := [some (.ref 625), some (.int (vx_i (30 * (vx_J h 625 48)))), none, none]) (by decide +kernel) rfl ?_
    exact H
  · replace H := H.2 c2
    refine vx_aload_n (n := 0) (q := 10) (by decide +kernel) rfl ?_
    refine vx_getR (b := 663) (idx := 127) (kd := 9) (s := 62) (fin := true) (q := 13) (by decide +kernel) (vx_Tk hT (by decide +kernel)) (vx_Tr hT (kd := 9) (by decide +kernel) (by decide +kernel) (by decide +kernel)) ?_
    refine vx_iload_n (n := 1) (q := 14) (by decide +kernel) rfl ?_
    refine vx_iconst (n := 0) (q := 15) (by decide +kernel) ?_
    obtain ⟨k3, H⟩ := H
    refine vx_zastore (z := 256) (q := 16) (by decide +kernel) (vx_Tk hT (by decide +kernel)) (vx_Tz hT (by decide +kernel)) (vx_ix k3 (by decide)) (Or.inl rfl) (fun h4 e4 => ?_)
    have hT4 := vx_TJ hT e4
    replace H := H h4 e4 hT4
    refine vx_iinc (n := 1) (m := 1) (x := v1) (q := 19) (lv' := [some (.ref 625), some (.int (vx_i (v1 + 1))), none, none]) (by decide +kernel) rfl rfl ?_
    refine vx_goto (off := (-17)) (q := 22) (t := 2) (by decide +kernel) ?_
    exact H
theorem vg_57_30 {d : Nat} {h : ve_H} {P : ve_H → Prop} {v1 : Int} {v2 : Option Value} (hT : vx_T 625 672 h) (H : (0 ≤ (vx_J h 625 48) ∧ (vx_J h 625 48) < 2) ∧ (vx_rI v1) ∧ (vx_rI ((30 * (vx_J h 625 48)) + (vx_J h 635 (vx_J h 625 48).toNat))) ∧ ((((30 * (vx_J h 625 48)) + (vx_J h 635 (vx_J h 625 48).toNat)) ≤ v1 → vx_W (d + 1) 57 115 [some (.ref 625), some (.int (vx_i 0)), v2, none] [] h (vx_RV P)) ∧ (v1 < ((30 * (vx_J h 625 48)) + (vx_J h 635 (vx_J h 625 48).toNat)) → vx_W (d + 1) 57 56 [some (.ref 625), some (.int (vx_i v1)), some (.int (vx_i (6 * v1))), none] [] h (vx_RV P)))) : vx_W (d + 1) 57 30 [some (.ref 625), some (.int (vx_i v1)), v2, none] [] h (vx_RV P) := by
  refine vx_iload_n (n := 1) (q := 31) (by decide +kernel) rfl ?_
  refine vx_bipush (n := 30) (q := 33) (by decide +kernel) ?_
  refine vx_aload_n (n := 0) (q := 34) (by decide +kernel) rfl ?_
  refine vx_getI (idx := 238) (kd := 9) (s := 48) (fin := false) (q := 37) (by decide +kernel) (vx_Tk hT (by decide +kernel)) ?_
  refine vx_imul (q := 38) (by decide +kernel) ?_
  refine vx_aload_n (n := 0) (q := 39) (by decide +kernel) rfl ?_
  refine vx_getR (b := 635) (idx := 38) (kd := 9) (s := 16) (fin := true) (q := 42) (by decide +kernel) (vx_Tk hT (by decide +kernel)) (vx_Tr hT (kd := 9) (by decide +kernel) (by decide +kernel) (by decide +kernel)) ?_
  refine vx_aload_n (n := 0) (q := 43) (by decide +kernel) rfl ?_
  refine vx_getI (idx := 238) (kd := 9) (s := 48) (fin := false) (q := 46) (by decide +kernel) (vx_Tk hT (by decide +kernel)) ?_
  obtain ⟨k1, H⟩ := H
  refine vx_iaload (z := 2) (q := 47) (by decide +kernel) (vx_Tk hT (by decide +kernel)) (vx_Tz hT (by decide +kernel)) (vx_ix k1 (by decide)) ?_
  refine vx_iadd (q := 48) (by decide +kernel) ?_
  obtain ⟨k2, H⟩ := H
  obtain ⟨k3, H⟩ := H
  refine vx_icmp_ge (off := 65) (q := 51) (t := 113) (by decide +kernel) k2 k3 (fun c4 => ?_) (fun c4 => ?_)
  · replace H := H.1 c4
    refine vx_iconst (n := 0) (q := 114) (by decide +kernel) ?_
    refine vx_istore_n (n := 1) (q := 115) (lv' := [some (.ref 625), some (.int (vx_i 0)), v2, none]) (by decide +kernel) rfl ?_
    exact H
  · replace H := H.2 c4
    refine vx_bipush (n := 6) (q := 53) (by decide +kernel) ?_
    refine vx_iload_n (n := 1) (q := 54) (by decide +kernel) rfl ?_
    refine vx_imul (q := 55) (by decide +kernel) ?_
    refine vx_istore_n (n := 2) (q := 56) (lv' := [some (.ref 625), some (.int (vx_i v1)), some (.int (vx_i (6 * v1))), none]) (by decide +kernel) rfl ?_
    exact H
theorem vg_57_56 {d : Nat} {h : ve_H} {P : ve_H → Prop} {v1 : Int} {v2 : Int} (hT : vx_T 625 672 h) (H : (0 ≤ v1 ∧ v1 < 61) ∧ (vx_rI v2) ∧ (vx_rI ((6 * v1) + (vx_J h 641 v1.toNat))) ∧ ((((6 * v1) + (vx_J h 641 v1.toNat)) ≤ v2 → vx_W (d + 1) 57 30 [some (.ref 625), some (.int (vx_i (v1 + 1))), some (.int (vx_i v2)), none] [] h (vx_RV P)) ∧ (v2 < ((6 * v1) + (vx_J h 641 v1.toNat)) → vx_CI d 56 [.ref 625, .int (vx_i v2)] h (fun r5 h5 => vx_T 625 672 h5 → ((r5 = 0 → vx_W (d + 1) 57 56 [some (.ref 625), some (.int (vx_i v1)), some (.int (vx_i (v2 + 1))), none] [] h5 (vx_RV P)) ∧ (r5 ≠ 0 → (0 ≤ v1 ∧ v1 < 61) ∧ (0 ≤ v2 ∧ v2 < 366) ∧ (0 ≤ ((16 * (vx_J h5 636 v1.toNat)) + (vx_J h5 644 v2.toNat)) ∧ ((16 * (vx_J h5 636 v1.toNat)) + (vx_J h5 644 v2.toNat)) < 256) ∧ (∀ h10, h10 = vx_sJ h5 663 ((16 * (vx_J h5 636 v1.toNat)) + (vx_J h5 644 v2.toNat)).toNat 1 → vx_T 625 672 h10 → vx_W (d + 1) 57 56 [some (.ref 625), some (.int (vx_i v1)), some (.int (vx_i (v2 + 1))), none] [] h10 (vx_RV P)))))))) : vx_W (d + 1) 57 56 [some (.ref 625), some (.int (vx_i v1)), some (.int (vx_i v2)), none] [] h (vx_RV P) := by
  refine vx_iload_n (n := 2) (q := 57) (by decide +kernel) rfl ?_
  refine vx_bipush (n := 6) (q := 59) (by decide +kernel) ?_
  refine vx_iload_n (n := 1) (q := 60) (by decide +kernel) rfl ?_
  refine vx_imul (q := 61) (by decide +kernel) ?_
  refine vx_aload_n (n := 0) (q := 62) (by decide +kernel) rfl ?_
  refine vx_getR (b := 641) (idx := 56) (kd := 9) (s := 22) (fin := true) (q := 65) (by decide +kernel) (vx_Tk hT (by decide +kernel)) (vx_Tr hT (kd := 9) (by decide +kernel) (by decide +kernel) (by decide +kernel)) ?_
  refine vx_iload_n (n := 1) (q := 66) (by decide +kernel) rfl ?_
  obtain ⟨k1, H⟩ := H
  refine vx_iaload (z := 61) (q := 67) (by decide +kernel) (vx_Tk hT (by decide +kernel)) (vx_Tz hT (by decide +kernel)) (vx_ix k1 (by decide)) ?_
  refine vx_iadd (q := 68) (by decide +kernel) ?_
  obtain ⟨k2, H⟩ := H
  obtain ⟨k3, H⟩ := H
  refine vx_icmp_ge (off := 39) (q := 71) (t := 107) (by decide +kernel) k2 k3 (fun c4 => ?_) (fun c4 => ?_)
  · replace H := H.1 c4
    refine vx_iinc (n := 1) (m := 1) (x := v1) (q := 110) (lv' := [some (.ref 625), some (.int (vx_i (v1 + 1))), some (.int (vx_i v2)), none]) (by decide +kernel) rfl rfl ?_
    refine vx_goto (off := (-80)) (q := 113) (t := 30) (by decide +kernel) ?_
    exact H
  · replace H := H.2 c4
    refine vx_aload_n (n := 0) (q := 72) (by decide +kernel) rfl ?_
    refine vx_iload_n (n := 2) (q := 73) (by decide +kernel) rfl ?_
    refine vx_callI (i := .invokevirtual 327) (how := 3) (cm := 56) (np := 2) (q := 76) (args := [.ref 625, .int (vx_i v2)]) (rest := []) (by decide +kernel) rfl rfl rfl (vx_w2 (w := 2) (ml := 2) rfl (by decide +kernel)) (vx_rcv (kd := 9) (vx_Tk hT (by decide +kernel)) (by decide +kernel)) H (fun r5 h5 hr5 hs5 H => ?_)
    have hT5 := vx_Tsh hT hs5
    replace H := H hT5
    refine vx_if0_eq (off := 25) (q := 79) (t := 101) (by decide +kernel) hr5 (fun c6 => ?_) (fun c6 => ?_)
    · replace H := H.1 c6
      refine vx_iinc (n := 2) (m := 1) (x := v2) (q := 104) (lv' := [some (.ref 625), some (.int (vx_i v1)), some (.int (vx_i (v2 + 1))), none]) (by decide +kernel) rfl rfl ?_
      refine vx_goto (off := (-48)) (q := 107) (t := 56) (by decide +kernel) ?_
      exact H
    · replace H := H.2 c6
      refine vx_aload_n (n := 0) (q := 80) (by decide +kernel) rfl ?_
      refine vx_getR (b := 663) (idx := 127) (kd := 9) (s := 62) (fin := true) (q := 83) (by decide +kernel) (vx_Tk hT5 (by decide +kernel)) (vx_Tr hT5 (kd := 9) (by decide +kernel) (by decide +kernel) (by decide +kernel)) ?_
      refine vx_bipush (n := 16) (q := 85) (by decide +kernel) ?_
      refine vx_aload_n (n := 0) (q := 86) (by decide +kernel) rfl ?_
      refine vx_getR (b := 636) (idx := 41) (kd := 9) (s := 17) (fin := true) (q := 89) (by decide +kernel) (vx_Tk hT5 (by decide +kernel)) (vx_Tr hT5 (kd := 9) (by decide +kernel) (by decide +kernel) (by decide +kernel)) ?_
      refine vx_iload_n (n := 1) (q := 90) (by decide +kernel) rfl ?_
      obtain ⟨k7, H⟩ := H
      refine vx_iaload (z := 61) (q := 91) (by decide +kernel) (vx_Tk hT5 (by decide +kernel)) (vx_Tz hT5 (by decide +kernel)) (vx_ix k7 (by decide)) ?_
      refine vx_imul (q := 92) (by decide +kernel) ?_
      refine vx_aload_n (n := 0) (q := 93) (by decide +kernel) rfl ?_
      refine vx_getR (b := 644) (idx := 65) (kd := 9) (s := 25) (fin := true) (q := 96) (by decide +kernel) (vx_Tk hT5 (by decide +kernel)) (vx_Tr hT5 (kd := 9) (by decide +kernel) (by decide +kernel) (by decide +kernel)) ?_
      refine vx_iload_n (n := 2) (q := 97) (by decide +kernel) rfl ?_
      obtain ⟨k8, H⟩ := H
      refine vx_iaload (z := 366) (q := 98) (by decide +kernel) (vx_Tk hT5 (by decide +kernel)) (vx_Tz hT5 (by decide +kernel)) (vx_ix k8 (by decide)) ?_
      refine vx_iadd (q := 99) (by decide +kernel) ?_
      refine vx_iconst (n := 1) (q := 100) (by decide +kernel) ?_
      obtain ⟨k9, H⟩ := H
      refine vx_zastore (z := 256) (q := 101) (by decide +kernel) (vx_Tk hT5 (by decide +kernel)) (vx_Tz hT5 (by decide +kernel)) (vx_ix k9 (by decide)) (Or.inr rfl) (fun h10 e10 => ?_)
      have hT10 := vx_TJ hT5 e10
      replace H := H h10 e10 hT10
      refine vx_iinc (n := 2) (m := 1) (x := v2) (q := 104) (lv' := [some (.ref 625), some (.int (vx_i v1)), some (.int (vx_i (v2 + 1))), none]) (by decide +kernel) rfl rfl ?_
      refine vx_goto (off := (-48)) (q := 107) (t := 56) (by decide +kernel) ?_
      exact H
theorem vg_57_115 {d : Nat} {h : ve_H} {P : ve_H → Prop} {v1 : Int} {v2 : Option Value} {v3 : Option Value} (hT : vx_T 625 672 h) (H : (vx_rI v1) ∧ ((16 ≤ v1 → P h) ∧ (v1 < 16 → vx_W (d + 1) 57 123 [some (.ref 625), some (.int (vx_i v1)), some (.int (vx_i 0)), v3] [] h (vx_RV P)))) : vx_W (d + 1) 57 115 [some (.ref 625), some (.int (vx_i v1)), v2, v3] [] h (vx_RV P) := by
  refine vx_iload_n (n := 1) (q := 116) (by decide +kernel) rfl ?_
  refine vx_bipush (n := 16) (q := 118) (by decide +kernel) ?_
  obtain ⟨k1, H⟩ := H
  refine vx_icmp_ge (off := 84) (q := 121) (t := 202) (by decide +kernel) k1 (by decide) (fun c2 => ?_) (fun c2 => ?_)
  · replace H := H.1 c2
    refine vx_retV (q := 203) (by decide +kernel) ?_
    exact H
  · replace H := H.2 c2
    refine vx_iconst (n := 0) (q := 122) (by decide +kernel) ?_
    refine vx_istore_n (n := 2) (q := 123) (lv' := [some (.ref 625), some (.int (vx_i v1)), some (.int (vx_i 0)), v3]) (by decide +kernel) rfl ?_
    exact H
theorem vg_57_123 {d : Nat} {h : ve_H} {P : ve_H → Prop} {v1 : Int} {v2 : Int} {v3 : Option Value} (hT : vx_T 625 672 h) (H : (vx_rI v2) ∧ ((16 ≤ v2 → vx_W (d + 1) 57 115 [some (.ref 625), some (.int (vx_i (v1 + 1))), some (.int (vx_i v2)), v3] [] h (vx_RV P)) ∧ (v2 < 16 → vx_W (d + 1) 57 131 [some (.ref 625), some (.int (vx_i v1)), some (.int (vx_i v2)), some (.int (vx_i 0))] [] h (vx_RV P)))) : vx_W (d + 1) 57 123 [some (.ref 625), some (.int (vx_i v1)), some (.int (vx_i v2)), v3] [] h (vx_RV P) := by
  refine vx_iload_n (n := 2) (q := 124) (by decide +kernel) rfl ?_
  refine vx_bipush (n := 16) (q := 126) (by decide +kernel) ?_
  obtain ⟨k1, H⟩ := H
  refine vx_icmp_ge (off := 70) (q := 129) (t := 196) (by decide +kernel) k1 (by decide) (fun c2 => ?_) (fun c2 => ?_)
  · replace H := H.1 c2
    refine vx_iinc (n := 1) (m := 1) (x := v1) (q := 199) (lv' := [some (.ref 625), some (.int (vx_i (v1 + 1))), some (.int (vx_i v2)), v3]) (by decide +kernel) rfl rfl ?_
    refine vx_goto (off := (-84)) (q := 202) (t := 115) (by decide +kernel) ?_
    exact H
  · replace H := H.2 c2
    refine vx_iconst (n := 0) (q := 130) (by decide +kernel) ?_
    refine vx_istore_n (n := 3) (q := 131) (lv' := [some (.ref 625), some (.int (vx_i v1)), some (.int (vx_i v2)), some (.int (vx_i 0))]) (by decide +kernel) rfl ?_
    exact H
theorem vg_57_131 {d : Nat} {h : ve_H} {P : ve_H → Prop} {v1 : Int} {v2 : Int} {v3 : Int} (hT : vx_T 625 672 h) (H : (vx_rI v3) ∧ ((16 ≤ v3 → vx_W (d + 1) 57 123 [some (.ref 625), some (.int (vx_i v1)), some (.int (vx_i (v2 + 1))), some (.int (vx_i v3))] [] h (vx_RV P)) ∧ (v3 < 16 → (0 ≤ ((16 * v2) + v3) ∧ ((16 * v2) + v3) < 256) ∧ (0 ≤ ((16 * v2) + v1) ∧ ((16 * v2) + v1) < 256) ∧ (((vx_J h 663 ((16 * v2) + v1).toNat) = 0 → (0 ≤ ((16 * v2) + v3) ∧ ((16 * v2) + v3) < 256) ∧ ((vx_or (vx_J h 663 ((16 * v2) + v3).toNat) 0) = 0 ∨ (vx_or (vx_J h 663 ((16 * v2) + v3).toNat) 0) = 1) ∧ (∀ h8, h8 = vx_sJ h 663 ((16 * v2) + v3).toNat (vx_or (vx_J h 663 ((16 * v2) + v3).toNat) 0) → vx_T 625 672 h8 → vx_W (d + 1) 57 131 [some (.ref 625), some (.int (vx_i v1)), some (.int (vx_i v2)), some (.int (vx_i (v3 + 1)))] [] h8 (vx_RV P))) ∧ ((vx_J h 663 ((16 * v2) + v1).toNat) ≠ 0 → (0 ≤ ((16 * v1) + v3) ∧ ((16 * v1) + v3) < 256) ∧ (((vx_J h 663 ((16 * v1) + v3).toNat) = 0 → (0 ≤ ((16 * v2) + v3) ∧ ((16 * v2) + v3) < 256) ∧ ((vx_or (vx_J h 663 ((16 * v2) + v3).toNat) 0) = 0 ∨ (vx_or (vx_J h 663 ((16 * v2) + v3).toNat) 0) = 1) ∧ (∀ h13, h13 = vx_sJ h 663 ((16 * v2) + v3).toNat (vx_or (vx_J h 663 ((16 * v2) + v3).toNat) 0) → vx_T 625 672 h13 → vx_W (d + 1) 57 131 [some (.ref 625), some (.int (vx_i v1)), some (.int (vx_i v2)), some (.int (vx_i (v3 + 1)))] [] h13 (vx_RV P))) ∧ ((vx_J h 663 ((16 * v1) + v3).toNat) ≠ 0 → (0 ≤ ((16 * v2) + v3) ∧ ((16 * v2) + v3) < 256) ∧ ((vx_or (vx_J h 663 ((16 * v2) + v3).toNat) 1) = 0 ∨ (vx_or (vx_J h 663 ((16 * v2) + v3).toNat) 1) = 1) ∧ (∀ h16, h16 = vx_sJ h 663 ((16 * v2) + v3).toNat (vx_or (vx_J h 663 ((16 * v2) + v3).toNat) 1) → vx_T 625 672 h16 → vx_W (d + 1) 57 131 [some (.ref 625), some (.int (vx_i v1)), some (.int (vx_i v2)), some (.int (vx_i (v3 + 1)))] [] h16 (vx_RV P))))))))) : vx_W (d + 1) 57 131 [some (.ref 625), some (.int (vx_i v1)), some (.int (vx_i v2)), some (.int (vx_i v3))] [] h (vx_RV P) := by
  refine vx_iload_n (n := 3) (q := 132) (by decide +kernel) rfl ?_
  refine vx_bipush (n := 16) (q := 134) (by decide +kernel) ?_
  obtain ⟨k1, H⟩ := H
  refine vx_icmp_ge (off := 56) (q := 137) (t := 190) (by decide +kernel) k1 (by decide) (fun c2 => ?_) (fun c2 => ?_)
  · replace H := H.1 c2
    refine vx_iinc (n := 2) (m := 1) (x := v2) (q := 193) (lv' := [some (.ref 625), some (.int (vx_i v1)), some (.int (vx_i (v2 + 1))), some (.int (vx_i v3))]) (by decide +kernel) rfl rfl ?_
    refine vx_goto (off := (-70)) (q := 196) (t := 123) (by decide +kernel) ?_
    exact H
  · replace H := H.2 c2
    refine vx_aload_n (n := 0) (q := 138) (by decide +kernel) rfl ?_
    refine vx_getR (b := 663) (idx := 127) (kd := 9) (s := 62) (fin := true) (q := 141) (by decide +kernel) (vx_Tk hT (by decide +kernel)) (vx_Tr hT (kd := 9) (by decide +kernel) (by decide +kernel) (by decide +kernel)) ?_
    refine vx_bipush (n := 16) (q := 143) (by decide +kernel) ?_
    refine vx_iload_n (n := 2) (q := 144) (by decide +kernel) rfl ?_
    refine vx_imul (q := 145) (by decide +kernel) ?_
    refine vx_iload_n (n := 3) (q := 146) (by decide +kernel) rfl ?_
    refine vx_iadd (q := 147) (by decide +kernel) ?_
    refine vx_dup2I (q := 148) (by decide +kernel) ?_
    obtain ⟨k3, H⟩ := H
    refine vx_zaload (z := 256) (q := 149) (by decide +kernel) (vx_Tk hT (by decide +kernel)) (vx_Tz hT (by decide +kernel)) (vx_ix k3 (by decide)) ?_
    refine vx_aload_n (n := 0) (q := 150) (by decide +kernel) rfl ?_
    refine vx_getR (b := 663) (idx := 127) (kd := 9) (s := 62) (fin := true) (q := 153) (by decide +kernel) (vx_Tk hT (by decide +kernel)) (vx_Tr hT (kd := 9) (by decide +kernel) (by decide +kernel) (by decide +kernel)) ?_
    refine vx_bipush (n := 16) (q := 155) (by decide +kernel) ?_
    refine vx_iload_n (n := 2) (q := 156) (by decide +kernel) rfl ?_
    refine vx_imul (q := 157) (by decide +kernel) ?_
    refine vx_iload_n (n := 1) (q := 158) (by decide +kernel) rfl ?_
    refine vx_iadd (q := 159) (by decide +kernel) ?_
    obtain ⟨k4, H⟩ := H
    refine vx_zaload (z := 256) (q := 160) (by decide +kernel) (vx_Tk hT (by decide +kernel)) (vx_Tz hT (by decide +kernel)) (vx_ix k4 (by decide)) ?_
    refine vx_if0_eq (off := 21) (q := 163) (t := 181) (by decide +kernel) (vx_rI_J h 663 ((16 * v2) + v1).toNat) (fun c5 => ?_) (fun c5 => ?_)
    · replace H := H.1 c5
      refine vx_iconst (n := 0) (q := 182) (by decide +kernel) ?_
      refine vx_ior (q := 183) (by decide +kernel) ?_
      obtain ⟨k6, H⟩ := H
      obtain ⟨k7, H⟩ := H
      refine vx_zastore (z := 256) (q := 184) (by decide +kernel) (vx_Tk hT (by decide +kernel)) (vx_Tz hT (by decide +kernel)) (vx_ix k6 (by decide)) k7 (fun h8 e8 => ?_)
      have hT8 := vx_TJ hT e8
      replace H := H h8 e8 hT8
      refine vx_iinc (n := 3) (m := 1) (x := v3) (q := 187) (lv' := [some (.ref 625), some (.int (vx_i v1)), some (.int (vx_i v2)), some (.int (vx_i (v3 + 1)))]) (by decide +kernel) rfl rfl ?_
      refine vx_goto (off := (-56)) (q := 190) (t := 131) (by decide +kernel) ?_
      exact H
    · replace H := H.2 c5
      refine vx_aload_n (n := 0) (q := 164) (by decide +kernel) rfl ?_
      refine vx_getR (b := 663) (idx := 127) (kd := 9) (s := 62) (fin := true) (q := 167) (by decide +kernel) (vx_Tk hT (by decide +kernel)) (vx_Tr hT (kd := 9) (by decide +kernel) (by decide +kernel) (by decide +kernel)) ?_
      refine vx_bipush (n := 16) (q := 169) (by decide +kernel) ?_
      refine vx_iload_n (n := 1) (q := 170) (by decide +kernel) rfl ?_
      refine vx_imul (q := 171) (by decide +kernel) ?_
      refine vx_iload_n (n := 3) (q := 172) (by decide +kernel) rfl ?_
      refine vx_iadd (q := 173) (by decide +kernel) ?_
      obtain ⟨k9, H⟩ := H
      refine vx_zaload (z := 256) (q := 174) (by decide +kernel) (vx_Tk hT (by decide +kernel)) (vx_Tz hT (by decide +kernel)) (vx_ix k9 (by decide)) ?_
      refine vx_if0_eq (off := 7) (q := 177) (t := 181) (by decide +kernel) (vx_rI_J h 663 ((16 * v1) + v3).toNat) (fun c10 => ?_) (fun c10 => ?_)
      · replace H := H.1 c10
        refine vx_iconst (n := 0) (q := 182) (by decide +kernel) ?_
        refine vx_ior (q := 183) (by decide +kernel) ?_
        obtain ⟨k11, H⟩ := H
        obtain ⟨k12, H⟩ := H
        refine vx_zastore (z := 256) (q := 184) (by decide +kernel) (vx_Tk hT (by decide +kernel)) (vx_Tz hT (by decide +kernel)) (vx_ix k11 (by decide)) k12 (fun h13 e13 => ?_)
        have hT13 := vx_TJ hT e13
        replace H := H h13 e13 hT13
        refine vx_iinc (n := 3) (m := 1) (x := v3) (q := 187) (lv' := [some (.ref 625), some (.int (vx_i v1)), some (.int (vx_i v2)), some (.int (vx_i (v3 + 1)))]) (by decide +kernel) rfl rfl ?_
        refine vx_goto (off := (-56)) (q := 190) (t := 131) (by decide +kernel) ?_
        exact H
      · replace H := H.2 c10
        refine vx_iconst (n := 1) (q := 178) (by decide +kernel) ?_
        refine vx_goto (off := 4) (q := 181) (t := 182) (by decide +kernel) ?_
        refine vx_ior (q := 183) (by decide +kernel) ?_
        obtain ⟨k14, H⟩ := H
        obtain ⟨k15, H⟩ := H
        refine vx_zastore (z := 256) (q := 184) (by decide +kernel) (vx_Tk hT (by decide +kernel)) (vx_Tz hT (by decide +kernel)) (vx_ix k14 (by decide)) k15 (fun h16 e16 => ?_)
        have hT16 := vx_TJ hT e16
        replace H := H h16 e16 hT16
        refine vx_iinc (n := 3) (m := 1) (x := v3) (q := 187) (lv' := [some (.ref 625), some (.int (vx_i v1)), some (.int (vx_i v2)), some (.int (vx_i (v3 + 1)))]) (by decide +kernel) rfl rfl ?_
        refine vx_goto (off := (-56)) (q := 190) (t := 131) (by decide +kernel) ?_
        exact H
-- RuleHouseModel.lookAbsence()V
theorem vg_59 {d : Nat} {h : ve_H} {P : ve_H → Prop}  (hT : vx_T 625 672 h) (H : vx_CV d 57 [.ref 625] h (fun h1 => vx_T 625 672 h1 → vx_W (d + 1) 59 12 [some (.ref 625), some (.int (vx_i (30 * (vx_J h1 625 48)))), none] [] h1 (vx_RV P))) : vx_CV (d + 1) 59 [.ref 625] h P := by
  refine vx_enter (ml := 3) (by decide +kernel) ?_
  show vx_W _ _ 0 [some (.ref 625), none, none] [] h _
  refine vx_aload_n (n := 0) (q := 1) (by decide +kernel) rfl ?_
  refine vx_callV (i := .invokevirtual 330) (how := 3) (cm := 57) (np := 1) (q := 4) (args := [.ref 625]) (rest := []) (by decide +kernel) rfl rfl rfl (vx_w2 (w := 1) (ml := 4) rfl (by decide +kernel)) (vx_rcv (kd := 9) (vx_Tk hT (by decide +kernel)) (by decide +kernel)) H (fun h1 hs1 H => ?_)
  have hT1 := vx_Tsh hT hs1
  replace H := H hT1
  refine vx_bipush (n := 30) (q := 6) (by decide +kernel) ?_
  refine vx_aload_n (n := 0) (q := 7) (by decide +kernel) rfl ?_
  refine vx_getI (idx := 238) (kd := 9) (s := 48) (fin := false) (q := 10) (by decide +kernel) (vx_Tk hT1 (by decide +kernel)) ?_
  refine vx_imul (q := 11) (by decide +kernel) ?_
  refine vx_istore_n (n := 1) (q := 12) (lv' := [some (.ref 625), some (.int (vx_i (30 * (vx_J h1 625 48)))), none]) (by decide +kernel) rfl ?_
  exact H
theorem vg_59_12 {d : Nat} {h : ve_H} {P : ve_H → Prop} {v1 : Int} {v2 : Option Value} (hT : vx_T 625 672 h) (H : (0 ≤ (vx_J h 625 48) ∧ (vx_J h 625 48) < 2) ∧ (vx_rI v1) ∧ (vx_rI ((30 * (vx_J h 625 48)) + (vx_J h 635 (vx_J h 625 48).toNat))) ∧ ((((30 * (vx_J h 625 48)) + (vx_J h 635 (vx_J h 625 48).toNat)) ≤ v1 → P h) ∧ (v1 < ((30 * (vx_J h 625 48)) + (vx_J h 635 (vx_J h 625 48).toNat)) → (((vx_J h 625 3) ≠ 0 → P h) ∧ ((vx_J h 625 3) = 0 → vx_W (d + 1) 59 45 [some (.ref 625), some (.int (vx_i v1)), some (.int (vx_i (6 * v1)))] [] h (vx_RV P)))))) : vx_W (d + 1) 59 12 [some (.ref 625), some (.int (vx_i v1)), v2] [] h (vx_RV P) := by
  refine vx_iload_n (n := 1) (q := 13) (by decide +kernel) rfl ?_
  refine vx_bipush (n := 30) (q := 15) (by decide +kernel) ?_
  refine vx_aload_n (n := 0) (q := 16) (by decide +kernel) rfl ?_
  refine vx_getI (idx := 238) (kd := 9) (s := 48) (fin := false) (q := 19) (by decide +kernel) (vx_Tk hT (by decide +kernel)) ?_
  refine vx_imul (q := 20) (by decide +kernel) ?_
  refine vx_aload_n (n := 0) (q := 21) (by decide +kernel) rfl ?_
  refine vx_getR (b := 635) (idx := 38) (kd := 9) (s := 16) (fin := true) (q := 24) (by decide +kernel) (vx_Tk hT (by decide +kernel)) (vx_Tr hT (kd := 9) (by decide +kernel) (by decide +kernel) (by decide +kernel)) ?_
  refine vx_aload_n (n := 0) (q := 25) (by decide +kernel) rfl ?_
  refine vx_getI (idx := 238) (kd := 9) (s := 48) (fin := false) (q := 28) (by decide +kernel) (vx_Tk hT (by decide +kernel)) ?_
  obtain ⟨k1, H⟩ := H
  refine vx_iaload (z := 2) (q := 29) (by decide +kernel) (vx_Tk hT (by decide +kernel)) (vx_Tz hT (by decide +kernel)) (vx_ix k1 (by decide)) ?_
  refine vx_iadd (q := 30) (by decide +kernel) ?_
  obtain ⟨k2, H⟩ := H
  obtain ⟨k3, H⟩ := H
  refine vx_icmp_ge (off := 155) (q := 33) (t := 185) (by decide +kernel) k2 k3 (fun c4 => ?_) (fun c4 => ?_)
  · replace H := H.1 c4
    refine vx_retV (q := 186) (by decide +kernel) ?_
    exact H
  · replace H := H.2 c4
    refine vx_aload_n (n := 0) (q := 34) (by decide +kernel) rfl ?_
    refine vx_getI (idx := 201) (kd := 9) (s := 3) (fin := false) (q := 37) (by decide +kernel) (vx_Tk hT (by decide +kernel)) ?_
    refine vx_if0_ne (off := 148) (q := 40) (t := 185) (by decide +kernel) (vx_rI_J h 625 3) (fun c5 => ?_) (fun c5 => ?_)
    · replace H := H.1 c5
      refine vx_retV (q := 186) (by decide +kernel) ?_
      exact H
    · replace H := H.2 c5
      refine vx_bipush (n := 6) (q := 42) (by decide +kernel) ?_
      refine vx_iload_n (n := 1) (q := 43) (by decide +kernel) rfl ?_
      refine vx_imul (q := 44) (by decide +kernel) ?_
      refine vx_istore_n (n := 2) (q := 45) (lv' := [some (.ref 625), some (.int (vx_i v1)), some (.int (vx_i (6 * v1)))]) (by decide +kernel) rfl ?_
      exact H
theorem vg_59_45 {d : Nat} {h : ve_H} {P : ve_H → Prop} {v1 : Int} {v2 : Int} (hT : vx_T 625 672 h) (H : (0 ≤ v1 ∧ v1 < 61) ∧ (vx_rI v2) ∧ (vx_rI ((6 * v1) + (vx_J h 641 v1.toNat))) ∧ ((((6 * v1) + (vx_J h 641 v1.toNat)) ≤ v2 → vx_W (d + 1) 59 118 [some (.ref 625), some (.int (vx_i v1)), some (.int (vx_i (6 * v1)))] [] h (vx_RV P)) ∧ (v2 < ((6 * v1) + (vx_J h 641 v1.toNat)) → (0 ≤ v1 ∧ v1 < 61) ∧ (((vx_J h 639 v1.toNat) ≤ 0 → vx_W (d + 1) 59 45 [some (.ref 625), some (.int (vx_i v1)), some (.int (vx_i (v2 + 1)))] [] h (vx_RV P)) ∧ (0 < (vx_J h 639 v1.toNat) → vx_CI d 56 [.ref 625, .int (vx_i v2)] h (fun r7 h7 => vx_T 625 672 h7 → ((r7 = 0 → vx_W (d + 1) 59 45 [some (.ref 625), some (.int (vx_i v1)), some (.int (vx_i (v2 + 1)))] [] h7 (vx_RV P)) ∧ (r7 ≠ 0 → (0 ≤ v1 ∧ v1 < 61) ∧ (0 ≤ v2 ∧ v2 < 366) ∧ vx_CI d 58 [.ref 625, .int (vx_i (vx_J h7 636 v1.toNat)), .int (vx_i (vx_J h7 644 v2.toNat))] h7 (fun r11 h11 => vx_T 625 672 h11 → ((r11 = 0 → vx_W (d + 1) 59 45 [some (.ref 625), some (.int (vx_i v1)), some (.int (vx_i (v2 + 1)))] [] h11 (vx_RV P)) ∧ (r11 ≠ 0 → (0 ≤ v1 ∧ v1 < 61) ∧ vx_CV d 37 [.ref 625, .int (vx_i 4), .int (vx_i (vx_J h11 662 v1.toNat))] h11 (fun h14 => vx_T 625 672 h14 → vx_W (d + 1) 59 45 [some (.ref 625), some (.int (vx_i v1)), some (.int (vx_i (v2 + 1)))] [] h14 (vx_RV P))))))))))))) : vx_W (d + 1) 59 45 [some (.ref 625), some (.int (vx_i v1)), some (.int (vx_i v2))] [] h (vx_RV P) := by
  refine vx_iload_n (n := 2) (q := 46) (by decide +kernel) rfl ?_
  refine vx_bipush (n := 6) (q := 48) (by decide +kernel) ?_
  refine vx_iload_n (n := 1) (q := 49) (by decide +kernel) rfl ?_
  refine vx_imul (q := 50) (by decide +kernel) ?_
  refine vx_aload_n (n := 0) (q := 51) (by decide +kernel) rfl ?_
  refine vx_getR (b := 641) (idx := 56) (kd := 9) (s := 22) (fin := true) (q := 54) (by decide +kernel) (vx_Tk hT (by decide +kernel)) (vx_Tr hT (kd := 9) (by decide +kernel) (by decide +kernel) (by decide +kernel)) ?_
  refine vx_iload_n (n := 1) (q := 55) (by decide +kernel) rfl ?_
  obtain ⟨k1, H⟩ := H
  refine vx_iaload (z := 61) (q := 56) (by decide +kernel) (vx_Tk hT (by decide +kernel)) (vx_Tz hT (by decide +kernel)) (vx_ix k1 (by decide)) ?_
  refine vx_iadd (q := 57) (by decide +kernel) ?_
  obtain ⟨k2, H⟩ := H
  obtain ⟨k3, H⟩ := H
  refine vx_icmp_ge (off := 56) (q := 60) (t := 113) (by decide +kernel) k2 k3 (fun c4 => ?_) (fun c4 => ?_)
  · replace H := H.1 c4
    refine vx_bipush (n := 6) (q := 115) (by decide +kernel) ?_
    refine vx_iload_n (n := 1) (q := 116) (by decide +kernel) rfl ?_
    refine vx_imul (q := 117) (by decide +kernel) ?_
    refine vx_istore_n (n := 2) (q := 118) (lv' := [some (.ref 625), some (.int (vx_i v1)), some (.int (vx_i (6 * v1)))]) (by decide +kernel) rfl ?_
    exact H
  · replace H := H.2 c4
    refine vx_aload_n (n := 0) (q := 61) (by decide +kernel) rfl ?_
    refine vx_getR (b := 639) (idx := 50) (kd := 9) (s := 20) (fin := true) (q := 64) (by decide +kernel) (vx_Tk hT (by decide +kernel)) (vx_Tr hT (kd := 9) (by decide +kernel) (by decide +kernel) (by decide +kernel)) ?_
    refine vx_iload_n (n := 1) (q := 65) (by decide +kernel) rfl ?_
    obtain ⟨k5, H⟩ := H
    refine vx_iaload (z := 61) (q := 66) (by decide +kernel) (vx_Tk hT (by decide +kernel)) (vx_Tz hT (by decide +kernel)) (vx_ix k5 (by decide)) ?_
    refine vx_if0_le (off := 41) (q := 69) (t := 107) (by decide +kernel) (vx_rI_J h 639 v1.toNat) (fun c6 => ?_) (fun c6 => ?_)
    · replace H := H.1 c6
      refine vx_iinc (n := 2) (m := 1) (x := v2) (q := 110) (lv' := [some (.ref 625), some (.int (vx_i v1)), some (.int (vx_i (v2 + 1)))]) (by decide +kernel) rfl rfl ?_
      refine vx_goto (off := (-65)) (q := 113) (t := 45) (by decide +kernel) ?_
      exact H
    · replace H := H.2 c6
      refine vx_aload_n (n := 0) (q := 70) (by decide +kernel) rfl ?_
      refine vx_iload_n (n := 2) (q := 71) (by decide +kernel) rfl ?_
      refine vx_callI (i := .invokevirtual 327) (how := 3) (cm := 56) (np := 2) (q := 74) (args := [.ref 625, .int (vx_i v2)]) (rest := []) (by decide +kernel) rfl rfl rfl (vx_w2 (w := 2) (ml := 2) rfl (by decide +kernel)) (vx_rcv (kd := 9) (vx_Tk hT (by decide +kernel)) (by decide +kernel)) H (fun r7 h7 hr7 hs7 H => ?_)
      have hT7 := vx_Tsh hT hs7
      replace H := H hT7
      refine vx_if0_eq (off := 33) (q := 77) (t := 107) (by decide +kernel) hr7 (fun c8 => ?_) (fun c8 => ?_)
      · replace H := H.1 c8
        refine vx_iinc (n := 2) (m := 1) (x := v2) (q := 110) (lv' := [some (.ref 625), some (.int (vx_i v1)), some (.int (vx_i (v2 + 1)))]) (by decide +kernel) rfl rfl ?_
        refine vx_goto (off := (-65)) (q := 113) (t := 45) (by decide +kernel) ?_
        exact H
      · replace H := H.2 c8
        refine vx_aload_n (n := 0) (q := 78) (by decide +kernel) rfl ?_
        refine vx_aload_n (n := 0) (q := 79) (by decide +kernel) rfl ?_
        refine vx_getR (b := 636) (idx := 41) (kd := 9) (s := 17) (fin := true) (q := 82) (by decide +kernel) (vx_Tk hT7 (by decide +kernel)) (vx_Tr hT7 (kd := 9) (by decide +kernel) (by decide +kernel) (by decide +kernel)) ?_
        refine vx_iload_n (n := 1) (q := 83) (by decide +kernel) rfl ?_
        obtain ⟨k9, H⟩ := H
        refine vx_iaload (z := 61) (q := 84) (by decide +kernel) (vx_Tk hT7 (by decide +kernel)) (vx_Tz hT7 (by decide +kernel)) (vx_ix k9 (by decide)) ?_
        refine vx_aload_n (n := 0) (q := 85) (by decide +kernel) rfl ?_
        refine vx_getR (b := 644) (idx := 65) (kd := 9) (s := 25) (fin := true) (q := 88) (by decide +kernel) (vx_Tk hT7 (by decide +kernel)) (vx_Tr hT7 (kd := 9) (by decide +kernel) (by decide +kernel) (by decide +kernel)) ?_
        refine vx_iload_n (n := 2) (q := 89) (by decide +kernel) rfl ?_
        obtain ⟨k10, H⟩ := H
        refine vx_iaload (z := 366) (q := 90) (by decide +kernel) (vx_Tk hT7 (by decide +kernel)) (vx_Tz hT7 (by decide +kernel)) (vx_ix k10 (by decide)) ?_
        refine vx_callI (i := .invokevirtual 333) (how := 3) (cm := 58) (np := 3) (q := 93) (args := [.ref 625, .int (vx_i (vx_J h7 636 v1.toNat)), .int (vx_i (vx_J h7 644 v2.toNat))]) (rest := []) (by decide +kernel) rfl rfl rfl (vx_w2 (w := 3) (ml := 3) rfl (by decide +kernel)) (vx_rcv (kd := 9) (vx_Tk hT7 (by decide +kernel)) (by decide +kernel)) H (fun r11 h11 hr11 hs11 H => ?_)
        have hT11 := vx_Tsh hT7 hs11
        replace H := H hT11
        refine vx_if0_eq (off := 14) (q := 96) (t := 107) (by decide +kernel) hr11 (fun c12 => ?_) (fun c12 => ?_)
        · replace H := H.1 c12
          refine vx_iinc (n := 2) (m := 1) (x := v2) (q := 110) (lv' := [some (.ref 625), some (.int (vx_i v1)), some (.int (vx_i (v2 + 1)))]) (by decide +kernel) rfl rfl ?_
          refine vx_goto (off := (-65)) (q := 113) (t := 45) (by decide +kernel) ?_
          exact H
        · replace H := H.2 c12
          refine vx_aload_n (n := 0) (q := 97) (by decide +kernel) rfl ?_
          refine vx_iconst (n := 4) (q := 98) (by decide +kernel) ?_
          refine vx_aload_n (n := 0) (q := 99) (by decide +kernel) rfl ?_
          refine vx_getR (b := 662) (idx := 124) (kd := 9) (s := 61) (fin := true) (q := 102) (by decide +kernel) (vx_Tk hT11 (by decide +kernel)) (vx_Tr hT11 (kd := 9) (by decide +kernel) (by decide +kernel) (by decide +kernel)) ?_
          refine vx_iload_n (n := 1) (q := 103) (by decide +kernel) rfl ?_
          obtain ⟨k13, H⟩ := H
          refine vx_iaload (z := 61) (q := 104) (by decide +kernel) (vx_Tk hT11 (by decide +kernel)) (vx_Tz hT11 (by decide +kernel)) (vx_ix k13 (by decide)) ?_
          refine vx_callV (i := .invokevirtual 241) (how := 3) (cm := 37) (np := 3) (q := 107) (args := [.ref 625, .int (vx_i 4), .int (vx_i (vx_J h11 662 v1.toNat))]) (rest := []) (by decide +kernel) rfl rfl rfl (vx_w2 (w := 3) (ml := 3) rfl (by decide +kernel)) (vx_rcv (kd := 9) (vx_Tk hT11 (by decide +kernel)) (by decide +kernel)) H (fun h14 hs14 H => ?_)
          have hT14 := vx_Tsh hT11 hs14
          replace H := H hT14
          refine vx_iinc (n := 2) (m := 1) (x := v2) (q := 110) (lv' := [some (.ref 625), some (.int (vx_i v1)), some (.int (vx_i (v2 + 1)))]) (by decide +kernel) rfl rfl ?_
          refine vx_goto (off := (-65)) (q := 113) (t := 45) (by decide +kernel) ?_
          exact H
theorem vg_59_118 {d : Nat} {h : ve_H} {P : ve_H → Prop} {v1 : Int} {v2 : Int} (hT : vx_T 625 672 h) (H : (0 ≤ v1 ∧ v1 < 61) ∧ (vx_rI v2) ∧ (vx_rI ((6 * v1) + (vx_J h 641 v1.toNat))) ∧ ((((6 * v1) + (vx_J h 641 v1.toNat)) ≤ v2 → vx_W (d + 1) 59 12 [some (.ref 625), some (.int (vx_i (v1 + 1))), some (.int (vx_i v2))] [] h (vx_RV P)) ∧ (v2 < ((6 * v1) + (vx_J h 641 v1.toNat)) → (0 ≤ v2 ∧ v2 < 366) ∧ (((vx_J h 643 v2.toNat) ≠ 1 → vx_W (d + 1) 59 118 [some (.ref 625), some (.int (vx_i v1)), some (.int (vx_i (v2 + 1)))] [] h (vx_RV P)) ∧ ((vx_J h 643 v2.toNat) = 1 → (0 ≤ v1 ∧ v1 < 61) ∧ (0 ≤ v2 ∧ v2 < 366) ∧ vx_CI d 58 [.ref 625, .int (vx_i (vx_J h 636 v1.toNat)), .int (vx_i (vx_J h 644 v2.toNat))] h (fun r9 h9 => vx_T 625 672 h9 → ((r9 = 0 → vx_W (d + 1) 59 118 [some (.ref 625), some (.int (vx_i v1)), some (.int (vx_i (v2 + 1)))] [] h9 (vx_RV P)) ∧ (r9 ≠ 0 → (0 ≤ v2 ∧ v2 < 366) ∧ vx_CV d 37 [.ref 625, .int (vx_i 4), .int (vx_i (vx_J h9 660 v2.toNat))] h9 (fun h12 => vx_T 625 672 h12 → vx_W (d + 1) 59 118 [some (.ref 625), some (.int (vx_i v1)), some (.int (vx_i (v2 + 1)))] [] h12 (vx_RV P)))))))))) : vx_W (d + 1) 59 118 [some (.ref 625), some (.int (vx_i v1)), some (.int (vx_i v2))] [] h (vx_RV P) := by
  refine vx_iload_n (n := 2) (q := 119) (by decide +kernel) rfl ?_
  refine vx_bipush (n := 6) (q := 121) (by decide +kernel) ?_
  refine vx_iload_n (n := 1) (q := 122) (by decide +kernel) rfl ?_
  refine vx_imul (q := 123) (by decide +kernel) ?_
  refine vx_aload_n (n := 0) (q := 124) (by decide +kernel) rfl ?_
  refine vx_getR (b := 641) (idx := 56) (kd := 9) (s := 22) (fin := true) (q := 127) (by decide +kernel) (vx_Tk hT (by decide +kernel)) (vx_Tr hT (kd := 9) (by decide +kernel) (by decide +kernel) (by decide +kernel)) ?_
  refine vx_iload_n (n := 1) (q := 128) (by decide +kernel) rfl ?_
  obtain ⟨k1, H⟩ := H
  refine vx_iaload (z := 61) (q := 129) (by decide +kernel) (vx_Tk hT (by decide +kernel)) (vx_Tz hT (by decide +kernel)) (vx_ix k1 (by decide)) ?_
  refine vx_iadd (q := 130) (by decide +kernel) ?_
  obtain ⟨k2, H⟩ := H
  obtain ⟨k3, H⟩ := H
  refine vx_icmp_ge (off := 49) (q := 133) (t := 179) (by decide +kernel) k2 k3 (fun c4 => ?_) (fun c4 => ?_)
  · replace H := H.1 c4
    refine vx_iinc (n := 1) (m := 1) (x := v1) (q := 182) (lv' := [some (.ref 625), some (.int (vx_i (v1 + 1))), some (.int (vx_i v2))]) (by decide +kernel) rfl rfl ?_
    refine vx_goto (off := (-170)) (q := 185) (t := 12) (by decide +kernel) ?_
    exact H
  · replace H := H.2 c4
    refine vx_aload_n (n := 0) (q := 134) (by decide +kernel) rfl ?_
    refine vx_getR (b := 643) (idx := 62) (kd := 9) (s := 24) (fin := true) (q := 137) (by decide +kernel) (vx_Tk hT (by decide +kernel)) (vx_Tr hT (kd := 9) (by decide +kernel) (by decide +kernel) (by decide +kernel)) ?_
    refine vx_iload_n (n := 2) (q := 138) (by decide +kernel) rfl ?_
    obtain ⟨k5, H⟩ := H
    refine vx_iaload (z := 366) (q := 139) (by decide +kernel) (vx_Tk hT (by decide +kernel)) (vx_Tz hT (by decide +kernel)) (vx_ix k5 (by decide)) ?_
    refine vx_iconst (n := 1) (q := 140) (by decide +kernel) ?_
    refine vx_icmp_ne (off := 33) (q := 143) (t := 173) (by decide +kernel) (vx_rI_J h 643 v2.toNat) (by decide) (fun c6 => ?_) (fun c6 => ?_)
    · replace H := H.1 c6
      refine vx_iinc (n := 2) (m := 1) (x := v2) (q := 176) (lv' := [some (.ref 625), some (.int (vx_i v1)), some (.int (vx_i (v2 + 1)))]) (by decide +kernel) rfl rfl ?_
      refine vx_goto (off := (-58)) (q := 179) (t := 118) (by decide +kernel) ?_
      exact H
    · replace H := H.2 c6
      refine vx_aload_n (n := 0) (q := 144) (by decide +kernel) rfl ?_
      refine vx_aload_n (n := 0) (q := 145) (by decide +kernel) rfl ?_
      refine vx_getR (b := 636) (idx := 41) (kd := 9) (s := 17) (fin := true) (q := 148) (by decide +kernel) (vx_Tk hT (by decide +kernel)) (vx_Tr hT (kd := 9) (by decide +kernel) (by decide +kernel) (by decide +kernel)) ?_
      refine vx_iload_n (n := 1) (q := 149) (by decide +kernel) rfl ?_
      obtain ⟨k7, H⟩ := H
      refine vx_iaload (z := 61) (q := 150) (by decide +kernel) (vx_Tk hT (by decide +kernel)) (vx_Tz hT (by decide +kernel)) (vx_ix k7 (by decide)) ?_
      refine vx_aload_n (n := 0) (q := 151) (by decide +kernel) rfl ?_
      refine vx_getR (b := 644) (idx := 65) (kd := 9) (s := 25) (fin := true) (q := 154) (by decide +kernel) (vx_Tk hT (by decide +kernel)) (vx_Tr hT (kd := 9) (by decide +kernel) (by decide +kernel) (by decide +kernel)) ?_
      refine vx_iload_n (n := 2) (q := 155) (by decide +kernel) rfl ?_
      obtain ⟨k8, H⟩ := H
      refine vx_iaload (z := 366) (q := 156) (by decide +kernel) (vx_Tk hT (by decide +kernel)) (vx_Tz hT (by decide +kernel)) (vx_ix k8 (by decide)) ?_
      refine vx_callI (i := .invokevirtual 333) (how := 3) (cm := 58) (np := 3) (q := 159) (args := [.ref 625, .int (vx_i (vx_J h 636 v1.toNat)), .int (vx_i (vx_J h 644 v2.toNat))]) (rest := []) (by decide +kernel) rfl rfl rfl (vx_w2 (w := 3) (ml := 3) rfl (by decide +kernel)) (vx_rcv (kd := 9) (vx_Tk hT (by decide +kernel)) (by decide +kernel)) H (fun r9 h9 hr9 hs9 H => ?_)
      have hT9 := vx_Tsh hT hs9
      replace H := H hT9
      refine vx_if0_eq (off := 14) (q := 162) (t := 173) (by decide +kernel) hr9 (fun c10 => ?_) (fun c10 => ?_)
      · replace H := H.1 c10
        refine vx_iinc (n := 2) (m := 1) (x := v2) (q := 176) (lv' := [some (.ref 625), some (.int (vx_i v1)), some (.int (vx_i (v2 + 1)))]) (by decide +kernel) rfl rfl ?_
        refine vx_goto (off := (-58)) (q := 179) (t := 118) (by decide +kernel) ?_
        exact H
      · replace H := H.2 c10
        refine vx_aload_n (n := 0) (q := 163) (by decide +kernel) rfl ?_
        refine vx_iconst (n := 4) (q := 164) (by decide +kernel) ?_
        refine vx_aload_n (n := 0) (q := 165) (by decide +kernel) rfl ?_
        refine vx_getR (b := 660) (idx := 118) (kd := 9) (s := 59) (fin := true) (q := 168) (by decide +kernel) (vx_Tk hT9 (by decide +kernel)) (vx_Tr hT9 (kd := 9) (by decide +kernel) (by decide +kernel) (by decide +kernel)) ?_
        refine vx_iload_n (n := 2) (q := 169) (by decide +kernel) rfl ?_
        obtain ⟨k11, H⟩ := H
        refine vx_iaload (z := 366) (q := 170) (by decide +kernel) (vx_Tk hT9 (by decide +kernel)) (vx_Tz hT9 (by decide +kernel)) (vx_ix k11 (by decide)) ?_
        refine vx_callV (i := .invokevirtual 241) (how := 3) (cm := 37) (np := 3) (q := 173) (args := [.ref 625, .int (vx_i 4), .int (vx_i (vx_J h9 660 v2.toNat))]) (rest := []) (by decide +kernel) rfl rfl rfl (vx_w2 (w := 3) (ml := 3) rfl (by decide +kernel)) (vx_rcv (kd := 9) (vx_Tk hT9 (by decide +kernel)) (by decide +kernel)) H (fun h12 hs12 H => ?_)
        have hT12 := vx_Tsh hT9 hs12
        replace H := H hT12
        refine vx_iinc (n := 2) (m := 1) (x := v2) (q := 176) (lv' := [some (.ref 625), some (.int (vx_i v1)), some (.int (vx_i (v2 + 1)))]) (by decide +kernel) rfl rfl ?_
        refine vx_goto (off := (-58)) (q := 179) (t := 118) (by decide +kernel) ?_
        exact H
-- RuleHouseModel.lookStrata()V
theorem vg_60 {d : Nat} {h : ve_H} {P : ve_H → Prop}  (hT : vx_T 625 672 h) (H : vx_W (d + 1) 60 10 [some (.ref 625), some (.int (vx_i (16 * (vx_J h 625 48)))), some (.int (vx_i (16 * (vx_J h 625 48)))), none, none, none] [] h (vx_RV P)) : vx_CV (d + 1) 60 [.ref 625] h P := by
  refine vx_enter (ml := 6) (by decide +kernel) ?_
  show vx_W _ _ 0 [some (.ref 625), none, none, none, none, none] [] h _
  refine vx_bipush (n := 16) (q := 2) (by decide +kernel) ?_
  refine vx_aload_n (n := 0) (q := 3) (by decide +kernel) rfl ?_
  refine vx_getI (idx := 238) (kd := 9) (s := 48) (fin := false) (q := 6) (by decide +kernel) (vx_Tk hT (by decide +kernel)) ?_
  refine vx_imul (q := 7) (by decide +kernel) ?_
  refine vx_istore_n (n := 1) (q := 8) (lv' := [some (.ref 625), some (.int (vx_i (16 * (vx_J h 625 48)))), none, none, none, none]) (by decide +kernel) rfl ?_
  refine vx_iload_n (n := 1) (q := 9) (by decide +kernel) rfl ?_
  refine vx_istore_n (n := 2) (q := 10) (lv' := [some (.ref 625), some (.int (vx_i (16 * (vx_J h 625 48)))), some (.int (vx_i (16 * (vx_J h 625 48)))), none, none, none]) (by decide +kernel) rfl ?_
  exact H
theorem vg_60_10 {d : Nat} {h : ve_H} {P : ve_H → Prop} {v1 : Int} {v2 : Int} (hT : vx_T 625 672 h) (H : (vx_rI v2) ∧ (vx_rI (v1 + 16)) ∧ (((v1 + 16) ≤ v2 → vx_W (d + 1) 60 33 [some (.ref 625), some (.int (vx_i v1)), some (.int (vx_i 1)), none, none, none] [] h (vx_RV P)) ∧ (v2 < (v1 + 16) → (0 ≤ v2 ∧ v2 < 32) ∧ (∀ h5, h5 = vx_sJ h 634 v2.toNat 0 → vx_T 625 672 h5 → vx_W (d + 1) 60 10 [some (.ref 625), some (.int (vx_i v1)), some (.int (vx_i (v2 + 1))), none, none, none] [] h5 (vx_RV P))))) : vx_W (d + 1) 60 10 [some (.ref 625), some (.int (vx_i v1)), some (.int (vx_i v2)), none, none, none] [] h (vx_RV P) := by
  refine vx_iload_n (n := 2) (q := 11) (by decide +kernel) rfl ?_
  refine vx_iload_n (n := 1) (q := 12) (by decide +kernel) rfl ?_
  refine vx_bipush (n := 16) (q := 14) (by decide +kernel) ?_
  refine vx_iadd (q := 15) (by decide +kernel) ?_
  obtain ⟨k1, H⟩ := H
  obtain ⟨k2, H⟩ := H
  refine vx_icmp_ge (off := 16) (q := 18) (t := 31) (by decide +kernel) k1 k2 (fun c3 => ?_) (fun c3 => ?_)
  · replace H := H.1 c3
    refine vx_iconst (n := 1) (q := 32) (by decide +kernel) ?_
    refine vx_istore_n (n := 2) (q := 33) (lv' := [some (.ref 625), some (.int (vx_i v1)), some (.int (vx_i 1)), none, none, none]) (by decide +kernel) rfl ?_
    exact H
  · replace H := H.2 c3
    refine vx_aload_n (n := 0) (q := 19) (by decide +kernel) rfl ?_
    refine vx_getR (b := 634) (idx := 35) (kd := 9) (s := 15) (fin := true) (q := 22) (by decide +kernel) (vx_Tk hT (by decide +kernel)) (vx_Tr hT (kd := 9) (by decide +kernel) (by decide +kernel) (by decide +kernel)) ?_
    refine vx_iload_n (n := 2) (q := 23) (by decide +kernel) rfl ?_
    refine vx_iconst (n := 0) (q := 24) (by decide +kernel) ?_
    obtain ⟨k4, H⟩ := H
    refine vx_iastore (z := 32) (q := 25) (by decide +kernel) (vx_Tk hT (by decide +kernel)) (vx_Tz hT (by decide +kernel)) (vx_ix k4 (by decide)) (fun h5 e5 => ?_)
    have hT5 := vx_TJ hT e5
    replace H := H h5 e5 hT5
    refine vx_iinc (n := 2) (m := 1) (x := v2) (q := 28) (lv' := [some (.ref 625), some (.int (vx_i v1)), some (.int (vx_i (v2 + 1))), none, none, none]) (by decide +kernel) rfl rfl ?_
    refine vx_goto (off := (-18)) (q := 31) (t := 10) (by decide +kernel) ?_
    exact H
theorem vg_60_33 {d : Nat} {h : ve_H} {P : ve_H → Prop} {v1 : Int} {v2 : Int} {v3 : Option Value} {v4 : Option Value} {v5 : Option Value} (hT : vx_T 625 672 h) (H : (vx_rI v2) ∧ ((v2 = 0 → P h) ∧ (v2 ≠ 0 → vx_W (d + 1) 60 47 [some (.ref 625), some (.int (vx_i v1)), some (.int (vx_i 0)), some (.int (vx_i (30 * (vx_J h 625 48)))), v4, v5] [] h (vx_RV P)))) : vx_W (d + 1) 60 33 [some (.ref 625), some (.int (vx_i v1)), some (.int (vx_i v2)), v3, v4, v5] [] h (vx_RV P) := by
  refine vx_iload_n (n := 2) (q := 34) (by decide +kernel) rfl ?_
  obtain ⟨k1, H⟩ := H
  refine vx_if0_eq (off := 163) (q := 37) (t := 197) (by decide +kernel) k1 (fun c2 => ?_) (fun c2 => ?_)
  · replace H := H.1 c2
    refine vx_retV (q := 198) (by decide +kernel) ?_
    exact H
  · replace H := H.2 c2
    refine vx_iconst (n := 0) (q := 38) (by decide +kernel) ?_
    refine vx_istore_n (n := 2) (q := 39) (lv' := [some (.ref 625), some (.int (vx_i v1)), some (.int (vx_i 0)), v3, v4, v5]) (by decide +kernel) rfl ?_
    refine vx_bipush (n := 30) (q := 41) (by decide +kernel) ?_
    refine vx_aload_n (n := 0) (q := 42) (by decide +kernel) rfl ?_
    refine vx_getI (idx := 238) (kd := 9) (s := 48) (fin := false) (q := 45) (by decide +kernel) (vx_Tk hT (by decide +kernel)) ?_
    refine vx_imul (q := 46) (by decide +kernel) ?_
    refine vx_istore_n (n := 3) (q := 47) (lv' := [some (.ref 625), some (.int (vx_i v1)), some (.int (vx_i 0)), some (.int (vx_i (30 * (vx_J h 625 48)))), v4, v5]) (by decide +kernel) rfl ?_
    exact H
theorem vg_60_47 {d : Nat} {h : ve_H} {P : ve_H → Prop} {v1 : Int} {v2 : Int} {v3 : Int} {v4 : Option Value} {v5 : Option Value} (hT : vx_T 625 672 h) (H : (0 ≤ (vx_J h 625 48) ∧ (vx_J h 625 48) < 2) ∧ (vx_rI v3) ∧ (vx_rI ((30 * (vx_J h 625 48)) + (vx_J h 635 (vx_J h 625 48).toNat))) ∧ ((((30 * (vx_J h 625 48)) + (vx_J h 635 (vx_J h 625 48).toNat)) ≤ v3 → vx_W (d + 1) 60 33 [some (.ref 625), some (.int (vx_i v1)), some (.int (vx_i v2)), some (.int (vx_i v3)), v4, v5] [] h (vx_RV P)) ∧ (v3 < ((30 * (vx_J h 625 48)) + (vx_J h 635 (vx_J h 625 48).toNat)) → vx_W (d + 1) 60 74 [some (.ref 625), some (.int (vx_i v1)), some (.int (vx_i v2)), some (.int (vx_i v3)), some (.int (vx_i (6 * v3))), v5] [] h (vx_RV P)))) : vx_W (d + 1) 60 47 [some (.ref 625), some (.int (vx_i v1)), some (.int (vx_i v2)), some (.int (vx_i v3)), v4, v5] [] h (vx_RV P) := by
  refine vx_iload_n (n := 3) (q := 48) (by decide +kernel) rfl ?_
  refine vx_bipush (n := 30) (q := 50) (by decide +kernel) ?_
  refine vx_aload_n (n := 0) (q := 51) (by decide +kernel) rfl ?_
  refine vx_getI (idx := 238) (kd := 9) (s := 48) (fin := false) (q := 54) (by decide +kernel) (vx_Tk hT (by decide +kernel)) ?_
  refine vx_imul (q := 55) (by decide +kernel) ?_
  refine vx_aload_n (n := 0) (q := 56) (by decide +kernel) rfl ?_
  refine vx_getR (b := 635) (idx := 38) (kd := 9) (s := 16) (fin := true) (q := 59) (by decide +kernel) (vx_Tk hT (by decide +kernel)) (vx_Tr hT (kd := 9) (by decide +kernel) (by decide +kernel) (by decide +kernel)) ?_
  refine vx_aload_n (n := 0) (q := 60) (by decide +kernel) rfl ?_
  refine vx_getI (idx := 238) (kd := 9) (s := 48) (fin := false) (q := 63) (by decide +kernel) (vx_Tk hT (by decide +kernel)) ?_
  obtain ⟨k1, H⟩ := H
  refine vx_iaload (z := 2) (q := 64) (by decide +kernel) (vx_Tk hT (by decide +kernel)) (vx_Tz hT (by decide +kernel)) (vx_ix k1 (by decide)) ?_
  refine vx_iadd (q := 65) (by decide +kernel) ?_
  obtain ⟨k2, H⟩ := H
  obtain ⟨k3, H⟩ := H
  refine vx_icmp_ge (off := 129) (q := 68) (t := 194) (by decide +kernel) k2 k3 (fun c4 => ?_) (fun c4 => ?_)
  · replace H := H.1 c4
    refine vx_goto (off := (-161)) (q := 197) (t := 33) (by decide +kernel) ?_
    exact H
  · replace H := H.2 c4
    refine vx_bipush (n := 6) (q := 70) (by decide +kernel) ?_
    refine vx_iload_n (n := 3) (q := 71) (by decide +kernel) rfl ?_
    refine vx_imul (q := 72) (by decide +kernel) ?_
    refine vx_istore (n := 4) (q := 74) (lv' := [some (.ref 625), some (.int (vx_i v1)), some (.int (vx_i v2)), some (.int (vx_i v3)), some (.int (vx_i (6 * v3))), v5]) (by decide +kernel) rfl ?_
    exact H
theorem vg_60_74 {d : Nat} {h : ve_H} {P : ve_H → Prop} {v1 : Int} {v2 : Int} {v3 : Int} {v4 : Int} {v5 : Option Value} (hT : vx_T 625 672 h) (H : (0 ≤ v3 ∧ v3 < 61) ∧ (vx_rI v4) ∧ (vx_rI ((6 * v3) + (vx_J h 641 v3.toNat))) ∧ ((((6 * v3) + (vx_J h 641 v3.toNat)) ≤ v4 → vx_W (d + 1) 60 47 [some (.ref 625), some (.int (vx_i v1)), some (.int (vx_i v2)), some (.int (vx_i (v3 + 1))), some (.int (vx_i v4)), v5] [] h (vx_RV P)) ∧ (v4 < ((6 * v3) + (vx_J h 641 v3.toNat)) → vx_CI d 56 [.ref 625, .int (vx_i v4)] h (fun r5 h5 => vx_T 625 672 h5 → ((r5 ≠ 0 → (0 ≤ v4 ∧ v4 < 366) ∧ (0 ≤ (v1 + (vx_J h5 644 v4.toNat)) ∧ (v1 + (vx_J h5 644 v4.toNat)) < 32) ∧ (0 ≤ v4 ∧ v4 < 366) ∧ (((vx_J h5 643 v4.toNat) = 1 → (0 ≤ v3 ∧ v3 < 61) ∧ (0 ≤ (v1 + (vx_J h5 636 v3.toNat)) ∧ (v1 + (vx_J h5 636 v3.toNat)) < 32) ∧ (vx_rI ((vx_J h5 634 (v1 + (vx_J h5 644 v4.toNat)).toNat) + 1)) ∧ (((vx_J h5 634 (v1 + (vx_J h5 636 v3.toNat)).toNat) < ((vx_J h5 634 (v1 + (vx_J h5 644 v4.toNat)).toNat) + 1) → (0 ≤ v3 ∧ v3 < 61) ∧ (0 ≤ (v1 + (vx_J h5 636 v3.toNat)) ∧ (v1 + (vx_J h5 636 v3.toNat)) < 32) ∧ (∀ h17, h17 = vx_sJ h5 634 (v1 + (vx_J h5 636 v3.toNat)).toNat ((vx_J h5 634 (v1 + (vx_J h5 644 v4.toNat)).toNat) + 1) → vx_T 625 672 h17 → vx_W (d + 1) 60 74 [some (.ref 625), some (.int (vx_i v1)), some (.int (vx_i 1)), some (.int (vx_i v3)), some (.int (vx_i (v4 + 1))), some (.int (vx_i ((vx_J h5 634 (v1 + (vx_J h5 644 v4.toNat)).toNat) + 1)))] [] h17 (vx_RV P))) ∧ (((vx_J h5 634 (v1 + (vx_J h5 644 v4.toNat)).toNat) + 1) ≤ (vx_J h5 634 (v1 + (vx_J h5 636 v3.toNat)).toNat) → vx_W (d + 1) 60 74 [some (.ref 625), some (.int (vx_i v1)), some (.int (vx_i v2)), some (.int (vx_i v3)), some (.int (vx_i (v4 + 1))), some (.int (vx_i ((vx_J h5 634 (v1 + (vx_J h5 644 v4.toNat)).toNat) + 1)))] [] h5 (vx_RV P)))) ∧ ((vx_J h5 643 v4.toNat) ≠ 1 → (0 ≤ v3 ∧ v3 < 61) ∧ (((vx_J h5 639 v3.toNat) ≤ 0 → (0 ≤ v3 ∧ v3 < 61) ∧ (0 ≤ (v1 + (vx_J h5 636 v3.toNat)) ∧ (v1 + (vx_J h5 636 v3.toNat)) < 32) ∧ (vx_rI ((vx_J h5 634 (v1 + (vx_J h5 644 v4.toNat)).toNat) + 0)) ∧ (((vx_J h5 634 (v1 + (vx_J h5 636 v3.toNat)).toNat) < ((vx_J h5 634 (v1 + (vx_J h5 644 v4.toNat)).toNat) + 0) → (0 ≤ v3 ∧ v3 < 61) ∧ (0 ≤ (v1 + (vx_J h5 636 v3.toNat)) ∧ (v1 + (vx_J h5 636 v3.toNat)) < 32) ∧ (∀ h26, h26 = vx_sJ h5 634 (v1 + (vx_J h5 636 v3.toNat)).toNat ((vx_J h5 634 (v1 + (vx_J h5 644 v4.toNat)).toNat) + 0) → vx_T 625 672 h26 → vx_W (d + 1) 60 74 [some (.ref 625), some (.int (vx_i v1)), some (.int (vx_i 1)), some (.int (vx_i v3)), some (.int (vx_i (v4 + 1))), some (.int (vx_i ((vx_J h5 634 (v1 + (vx_J h5 644 v4.toNat)).toNat) + 0)))] [] h26 (vx_RV P))) ∧ (((vx_J h5 634 (v1 + (vx_J h5 644 v4.toNat)).toNat) + 0) ≤ (vx_J h5 634 (v1 + (vx_J h5 636 v3.toNat)).toNat) → vx_W (d + 1) 60 74 [some (.ref 625), some (.int (vx_i v1)), some (.int (vx_i v2)), some (.int (vx_i v3)), some (.int (vx_i (v4 + 1))), some (.int (vx_i ((vx_J h5 634 (v1 + (vx_J h5 644 v4.toNat)).toNat) + 0)))] [] h5 (vx_RV P)))) ∧ (0 < (vx_J h5 639 v3.toNat) → (0 ≤ v3 ∧ v3 < 61) ∧ (0 ≤ (v1 + (vx_J h5 636 v3.toNat)) ∧ (v1 + (vx_J h5 636 v3.toNat)) < 32) ∧ (vx_rI ((vx_J h5 634 (v1 + (vx_J h5 644 v4.toNat)).toNat) + 1)) ∧ (((vx_J h5 634 (v1 + (vx_J h5 636 v3.toNat)).toNat) < ((vx_J h5 634 (v1 + (vx_J h5 644 v4.toNat)).toNat) + 1) → (0 ≤ v3 ∧ v3 < 61) ∧ (0 ≤ (v1 + (vx_J h5 636 v3.toNat)) ∧ (v1 + (vx_J h5 636 v3.toNat)) < 32) ∧ (∀ h33, h33 = vx_sJ h5 634 (v1 + (vx_J h5 636 v3.toNat)).toNat ((vx_J h5 634 (v1 + (vx_J h5 644 v4.toNat)).toNat) + 1) → vx_T 625 672 h33 → vx_W (d + 1) 60 74 [some (.ref 625), some (.int (vx_i v1)), some (.int (vx_i 1)), some (.int (vx_i v3)), some (.int (vx_i (v4 + 1))), some (.int (vx_i ((vx_J h5 634 (v1 + (vx_J h5 644 v4.toNat)).toNat) + 1)))] [] h33 (vx_RV P))) ∧ (((vx_J h5 634 (v1 + (vx_J h5 644 v4.toNat)).toNat) + 1) ≤ (vx_J h5 634 (v1 + (vx_J h5 636 v3.toNat)).toNat) → vx_W (d + 1) 60 74 [some (.ref 625), some (.int (vx_i v1)), some (.int (vx_i v2)), some (.int (vx_i v3)), some (.int (vx_i (v4 + 1))), some (.int (vx_i ((vx_J h5 634 (v1 + (vx_J h5 644 v4.toNat)).toNat) + 1)))] [] h5 (vx_RV P)))))))) ∧ (r5 = 0 → vx_W (d + 1) 60 74 [some (.ref 625), some (.int (vx_i v1)), some (.int (vx_i v2)), some (.int (vx_i v3)), some (.int (vx_i (v4 + 1))), v5] [] h5 (vx_RV P))))))) : vx_W (d + 1) 60 74 [some (.ref 625), some (.int (vx_i v1)), some (.int (vx_i v2)), some (.int (vx_i v3)), some (.int (vx_i v4)), v5] [] h (vx_RV P) := by
  refine vx_iload (n := 4) (q := 76) (by decide +kernel) rfl ?_
  refine vx_bipush (n := 6) (q := 78) (by decide +kernel) ?_
  refine vx_iload_n (n := 3) (q := 79) (by decide +kernel) rfl ?_
  refine vx_imul (q := 80) (by decide +kernel) ?_
  refine vx_aload_n (n := 0) (q := 81) (by decide +kernel) rfl ?_
  refine vx_getR (b := 641) (idx := 56) (kd := 9) (s := 22) (fin := true) (q := 84) (by decide +kernel) (vx_Tk hT (by decide +kernel)) (vx_Tr hT (kd := 9) (by decide +kernel) (by decide +kernel) (by decide +kernel)) ?_
  refine vx_iload_n (n := 3) (q := 85) (by decide +kernel) rfl ?_
  obtain ⟨k1, H⟩ := H
  refine vx_iaload (z := 61) (q := 86) (by decide +kernel) (vx_Tk hT (by decide +kernel)) (vx_Tz hT (by decide +kernel)) (vx_ix k1 (by decide)) ?_
  refine vx_iadd (q := 87) (by decide +kernel) ?_
  obtain ⟨k2, H⟩ := H
  obtain ⟨k3, H⟩ := H
  refine vx_icmp_ge (off := 101) (q := 90) (t := 188) (by decide +kernel) k2 k3 (fun c4 => ?_) (fun c4 => ?_)
  · replace H := H.1 c4
    refine vx_iinc (n := 3) (m := 1) (x := v3) (q := 191) (lv' := [some (.ref 625), some (.int (vx_i v1)), some (.int (vx_i v2)), some (.int (vx_i (v3 + 1))), some (.int (vx_i v4)), v5]) (by decide +kernel) rfl rfl ?_
    refine vx_goto (off := (-144)) (q := 194) (t := 47) (by decide +kernel) ?_
    exact H
  · replace H := H.2 c4
    refine vx_aload_n (n := 0) (q := 91) (by decide +kernel) rfl ?_
    refine vx_iload (n := 4) (q := 93) (by decide +kernel) rfl ?_
    refine vx_callI (i := .invokevirtual 327) (how := 3) (cm := 56) (np := 2) (q := 96) (args := [.ref 625, .int (vx_i v4)]) (rest := []) (by decide +kernel) rfl rfl rfl (vx_w2 (w := 2) (ml := 2) rfl (by decide +kernel)) (vx_rcv (kd := 9) (vx_Tk hT (by decide +kernel)) (by decide +kernel)) H (fun r5 h5 hr5 hs5 H => ?_)
    have hT5 := vx_Tsh hT hs5
    replace H := H hT5
    refine vx_if0_ne (off := 6) (q := 99) (t := 102) (by decide +kernel) hr5 (fun c6 => ?_) (fun c6 => ?_)
    · replace H := H.1 c6
      refine vx_aload_n (n := 0) (q := 103) (by decide +kernel) rfl ?_
      refine vx_getR (b := 634) (idx := 35) (kd := 9) (s := 15) (fin := true) (q := 106) (by decide +kernel) (vx_Tk hT5 (by decide +kernel)) (vx_Tr hT5 (kd := 9) (by decide +kernel) (by decide +kernel) (by decide +kernel)) ?_
      refine vx_iload_n (n := 1) (q := 107) (by decide +kernel) rfl ?_
      refine vx_aload_n (n := 0) (q := 108) (by decide +kernel) rfl ?_
      refine vx_getR (b := 644) (idx := 65) (kd := 9) (s := 25) (fin := true) (q := 111) (by decide +kernel) (vx_Tk hT5 (by decide +kernel)) (vx_Tr hT5 (kd := 9) (by decide +kernel) (by decide +kernel) (by decide +kernel)) ?_
      refine vx_iload (n := 4) (q := 113) (by decide +kernel) rfl ?_
      obtain ⟨k7, H⟩ := H
      refine vx_iaload (z := 366) (q := 114) (by decide +kernel) (vx_Tk hT5 (by decide +kernel)) (vx_Tz hT5 (by decide +kernel)) (vx_ix k7 (by decide)) ?_
      refine vx_iadd (q := 115) (by decide +kernel) ?_
      obtain ⟨k8, H⟩ := H
      refine vx_iaload (z := 32) (q := 116) (by decide +kernel) (vx_Tk hT5 (by decide +kernel)) (vx_Tz hT5 (by decide +kernel)) (vx_ix k8 (by decide)) ?_
      refine vx_aload_n (n := 0) (q := 117) (by decide +kernel) rfl ?_
      refine vx_getR (b := 643) (idx := 62) (kd := 9) (s := 24) (fin := true) (q := 120) (by decide +kernel) (vx_Tk hT5 (by decide +kernel)) (vx_Tr hT5 (kd := 9) (by decide +kernel) (by decide +kernel) (by decide +kernel)) ?_
      refine vx_iload (n := 4) (q := 122) (by decide +kernel) rfl ?_
      obtain ⟨k9, H⟩ := H
      refine vx_iaload (z := 366) (q := 123) (by decide +kernel) (vx_Tk hT5 (by decide +kernel)) (vx_Tz hT5 (by decide +kernel)) (vx_ix k9 (by decide)) ?_
      refine vx_iconst (n := 1) (q := 124) (by decide +kernel) ?_
      refine vx_icmp_eq (off := 12) (q := 127) (t := 136) (by decide +kernel) (vx_rI_J h5 643 v4.toNat) (by decide) (fun c10 => ?_) (fun c10 => ?_)
      · replace H := H.1 c10
        refine vx_iconst (n := 1) (q := 137) (by decide +kernel) ?_
        refine vx_goto (off := 4) (q := 140) (t := 141) (by decide +kernel) ?_
        refine vx_iadd (q := 142) (by decide +kernel) ?_
        refine vx_istore (n := 5) (q := 144) (lv' := [some (.ref 625), some (.int (vx_i v1)), some (.int (vx_i v2)), some (.int (vx_i v3)), some (.int (vx_i v4)), some (.int (vx_i ((vx_J h5 634 (v1 + (vx_J h5 644 v4.toNat)).toNat) + 1)))]) (by decide +kernel) rfl ?_
        refine vx_aload_n (n := 0) (q := 145) (by decide +kernel) rfl ?_
        refine vx_getR (b := 634) (idx := 35) (kd := 9) (s := 15) (fin := true) (q := 148) (by decide +kernel) (vx_Tk hT5 (by decide +kernel)) (vx_Tr hT5 (kd := 9) (by decide +kernel) (by decide +kernel) (by decide +kernel)) ?_
        refine vx_iload_n (n := 1) (q := 149) (by decide +kernel) rfl ?_
        refine vx_aload_n (n := 0) (q := 150) (by decide +kernel) rfl ?_
        refine vx_getR (b := 636) (idx := 41) (kd := 9) (s := 17) (fin := true) (q := 153) (by decide +kernel) (vx_Tk hT5 (by decide +kernel)) (vx_Tr hT5 (kd := 9) (by decide +kernel) (by decide +kernel) (by decide +kernel)) ?_
        refine vx_iload_n (n := 3) (q := 154) (by decide +kernel) rfl ?_
        obtain ⟨k11, H⟩ := H
        refine vx_iaload (z := 61) (q := 155) (by decide +kernel) (vx_Tk hT5 (by decide +kernel)) (vx_Tz hT5 (by decide +kernel)) (vx_ix k11 (by decide)) ?_
        refine vx_iadd (q := 156) (by decide +kernel) ?_
        obtain ⟨k12, H⟩ := H
        refine vx_iaload (z := 32) (q := 157) (by decide +kernel) (vx_Tk hT5 (by decide +kernel)) (vx_Tz hT5 (by decide +kernel)) (vx_ix k12 (by decide)) ?_
        refine vx_iload (n := 5) (q := 159) (by decide +kernel) rfl ?_
        obtain ⟨k13, H⟩ := H
        refine vx_icmp_lt (off := 6) (q := 162) (t := 165) (by decide +kernel) (vx_rI_J h5 634 (v1 + (vx_J h5 636 v3.toNat)).toNat) k13 (fun c14 => ?_) (fun c14 => ?_)
        · replace H := H.1 c14
          refine vx_aload_n (n := 0) (q := 166) (by decide +kernel) rfl ?_
          refine vx_getR (b := 634) (idx := 35) (kd := 9) (s := 15) (fin := true) (q := 169) (by decide +kernel) (vx_Tk hT5 (by decide +kernel)) (vx_Tr hT5 (kd := 9) (by decide +kernel) (by decide +kernel) (by decide +kernel)) ?_
          refine vx_iload_n (n := 1) (q := 170) (by decide +kernel) rfl ?_
          refine vx_aload_n (n := 0) (q := 171) (by decide +kernel) rfl ?_
          refine vx_getR (b := 636) (idx := 41) (kd := 9) (s := 17) (fin := true) (q := 174) (by decide +kernel) (vx_Tk hT5 (by decide +kernel)) (vx_Tr hT5 (kd := 9) (by decide +kernel) (by decide +kernel) (by decide +kernel)) ?_
          refine vx_iload_n (n := 3) (q := 175) (by decide +kernel) rfl ?_
          obtain ⟨k15, H⟩ := H
          refine vx_iaload (z := 61) (q := 176) (by decide +kernel) (vx_Tk hT5 (by decide +kernel)) (vx_Tz hT5 (by decide +kernel)) (vx_ix k15 (by decide)) ?_
          refine vx_iadd (q := 177) (by decide +kernel) ?_
          refine vx_iload (n := 5) (q := 179) (by decide +kernel) rfl ?_
          obtain ⟨k16, H⟩ := H
          refine vx_iastore (z := 32) (q := 180) (by decide +kernel) (vx_Tk hT5 (by decide +kernel)) (vx_Tz hT5 (by decide +kernel)) (vx_ix k16 (by decide)) (fun h17 e17 => ?_)
          have hT17 := vx_TJ hT5 e17
          replace H := H h17 e17 hT17
          refine vx_iconst (n := 1) (q := 181) (by decide +kernel) ?_
          refine vx_istore_n (n := 2) (q := 182) (lv' := [some (.ref 625), some (.int (vx_i v1)), some (.int (vx_i 1)), some (.int (vx_i v3)), some (.int (vx_i v4)), some (.int (vx_i ((vx_J h5 634 (v1 + (vx_J h5 644 v4.toNat)).toNat) + 1)))]) (by decide +kernel) rfl ?_
          refine vx_iinc (n := 4) (m := 1) (x := v4) (q := 185) (lv' := [some (.ref 625), some (.int (vx_i v1)), some (.int (vx_i 1)), some (.int (vx_i v3)), some (.int (vx_i (v4 + 1))), some (.int (vx_i ((vx_J h5 634 (v1 + (vx_J h5 644 v4.toNat)).toNat) + 1)))]) (by decide +kernel) rfl rfl ?_
          refine vx_goto (off := (-111)) (q := 188) (t := 74) (by decide +kernel) ?_
          exact H
        · replace H := H.2 c14
          refine vx_goto (off := 20) (q := 165) (t := 182) (by decide +kernel) ?_
          refine vx_iinc (n := 4) (m := 1) (x := v4) (q := 185) (lv' := [some (.ref 625), some (.int (vx_i v1)), some (.int (vx_i v2)), some (.int (vx_i v3)), some (.int (vx_i (v4 + 1))), some (.int (vx_i ((vx_J h5 634 (v1 + (vx_J h5 644 v4.toNat)).toNat) + 1)))]) (by decide +kernel) rfl rfl ?_
          refine vx_goto (off := (-111)) (q := 188) (t := 74) (by decide +kernel) ?_
          exact H
      · replace H := H.2 c10
        refine vx_aload_n (n := 0) (q := 128) (by decide +kernel) rfl ?_
        refine vx_getR (b := 639) (idx := 50) (kd := 9) (s := 20) (fin := true) (q := 131) (by decide +kernel) (vx_Tk hT5 (by decide +kernel)) (vx_Tr hT5 (kd := 9) (by decide +kernel) (by decide +kernel) (by decide +kernel)) ?_
        refine vx_iload_n (n := 3) (q := 132) (by decide +kernel) rfl ?_
        obtain ⟨k18, H⟩ := H
        refine vx_iaload (z := 61) (q := 133) (by decide +kernel) (vx_Tk hT5 (by decide +kernel)) (vx_Tz hT5 (by decide +kernel)) (vx_ix k18 (by decide)) ?_
        refine vx_if0_le (off := 7) (q := 136) (t := 140) (by decide +kernel) (vx_rI_J h5 639 v3.toNat) (fun c19 => ?_) (fun c19 => ?_)
        · replace H := H.1 c19
          refine vx_iconst (n := 0) (q := 141) (by decide +kernel) ?_
          refine vx_iadd (q := 142) (by decide +kernel) ?_
          refine vx_istore (n := 5) (q := 144) (lv' := [some (.ref 625), some (.int (vx_i v1)), some (.int (vx_i v2)), some (.int (vx_i v3)), some (.int (vx_i v4)), some (.int (vx_i ((vx_J h5 634 (v1 + (vx_J h5 644 v4.toNat)).toNat) + 0)))]) (by decide +kernel) rfl ?_
          refine vx_aload_n (n := 0) (q := 145) (by decide +kernel) rfl ?_
          refine vx_getR (b := 634) (idx := 35) (kd := 9) (s := 15) (fin := true) (q := 148) (by decide +kernel) (vx_Tk hT5 (by decide +kernel)) (vx_Tr hT5 (kd := 9) (by decide +kernel) (by decide +kernel) (by decide +kernel)) ?_
          refine vx_iload_n (n := 1) (q := 149) (by decide +kernel) rfl ?_
          refine vx_aload_n (n := 0) (q := 150) (by decide +kernel) rfl ?_
          refine vx_getR (b := 636) (idx := 41) (kd := 9) (s := 17) (fin := true) (q := 153) (by decide +kernel) (vx_Tk hT5 (by decide +kernel)) (vx_Tr hT5 (kd := 9) (by decide +kernel) (by decide +kernel) (by decide +kernel)) ?_
          refine vx_iload_n (n := 3) (q := 154) (by decide +kernel) rfl ?_
          obtain ⟨k20, H⟩ := H
          refine vx_iaload (z := 61) (q := 155) (by decide +kernel) (vx_Tk hT5 (by decide +kernel)) (vx_Tz hT5 (by decide +kernel)) (vx_ix k20 (by decide)) ?_
          refine vx_iadd (q := 156) (by decide +kernel) ?_
          obtain ⟨k21, H⟩ := H
          refine vx_iaload (z := 32) (q := 157) (by decide +kernel) (vx_Tk hT5 (by decide +kernel)) (vx_Tz hT5 (by decide +kernel)) (vx_ix k21 (by decide)) ?_
          refine vx_iload (n := 5) (q := 159) (by decide +kernel) rfl ?_
          obtain ⟨k22, H⟩ := H
          refine vx_icmp_lt (off := 6) (q := 162) (t := 165) (by decide +kernel) (vx_rI_J h5 634 (v1 + (vx_J h5 636 v3.toNat)).toNat) k22 (fun c23 => ?_) (fun c23 => ?_)
          · replace H := H.1 c23
            refine vx_aload_n (n := 0) (q := 166) (by decide +kernel) rfl ?_
            refine vx_getR (b := 634) (idx := 35) (kd := 9) (s := 15) (fin := true) (q := 169) (by decide +kernel) (vx_Tk hT5 (by decide +kernel)) (vx_Tr hT5 (kd := 9) (by decide +kernel) (by decide +kernel) (by decide +kernel)) ?_
            refine vx_iload_n (n := 1) (q := 170) (by decide +kernel) rfl ?_
            refine vx_aload_n (n := 0) (q := 171) (by decide +kernel) rfl ?_
            refine vx_getR (b := 636) (idx := 41) (kd := 9) (s := 17) (fin := true) (q := 174) (by decide +kernel) (vx_Tk hT5 (by decide +kernel)) (vx_Tr hT5 (kd := 9) (by decide +kernel) (by decide +kernel) (by decide +kernel)) ?_
            refine vx_iload_n (n := 3) (q := 175) (by decide +kernel) rfl ?_
            obtain ⟨k24, H⟩ := H
            refine vx_iaload (z := 61) (q := 176) (by decide +kernel) (vx_Tk hT5 (by decide +kernel)) (vx_Tz hT5 (by decide +kernel)) (vx_ix k24 (by decide)) ?_
            refine vx_iadd (q := 177) (by decide +kernel) ?_
            refine vx_iload (n := 5) (q := 179) (by decide +kernel) rfl ?_
            obtain ⟨k25, H⟩ := H
            refine vx_iastore (z := 32) (q := 180) (by decide +kernel) (vx_Tk hT5 (by decide +kernel)) (vx_Tz hT5 (by decide +kernel)) (vx_ix k25 (by decide)) (fun h26 e26 => ?_)
            have hT26 := vx_TJ hT5 e26
            replace H := H h26 e26 hT26
            refine vx_iconst (n := 1) (q := 181) (by decide +kernel) ?_
            refine vx_istore_n (n := 2) (q := 182) (lv' := [some (.ref 625), some (.int (vx_i v1)), some (.int (vx_i 1)), some (.int (vx_i v3)), some (.int (vx_i v4)), some (.int (vx_i ((vx_J h5 634 (v1 + (vx_J h5 644 v4.toNat)).toNat) + 0)))]) (by decide +kernel) rfl ?_
            refine vx_iinc (n := 4) (m := 1) (x := v4) (q := 185) (lv' := [some (.ref 625), some (.int (vx_i v1)), some (.int (vx_i 1)), some (.int (vx_i v3)), some (.int (vx_i (v4 + 1))), some (.int (vx_i ((vx_J h5 634 (v1 + (vx_J h5 644 v4.toNat)).toNat) + 0)))]) (by decide +kernel) rfl rfl ?_
            refine vx_goto (off := (-111)) (q := 188) (t := 74) (by decide +kernel) ?_
            exact H
          · replace H := H.2 c23
            refine vx_goto (off := 20) (q := 165) (t := 182) (by decide +kernel) ?_
            refine vx_iinc (n := 4) (m := 1) (x := v4) (q := 185) (lv' := [some (.ref 625), some (.int (vx_i v1)), some (.int (vx_i v2)), some (.int (vx_i v3)), some (.int (vx_i (v4 + 1))), some (.int (vx_i ((vx_J h5 634 (v1 + (vx_J h5 644 v4.toNat)).toNat) + 0)))]) (by decide +kernel) rfl rfl ?_
            refine vx_goto (off := (-111)) (q := 188) (t := 74) (by decide +kernel) ?_
            exact H
        · replace H := H.2 c19
          refine vx_iconst (n := 1) (q := 137) (by decide +kernel) ?_
          refine vx_goto (off := 4) (q := 140) (t := 141) (by decide +kernel) ?_
          refine vx_iadd (q := 142) (by decide +kernel) ?_
          refine vx_istore (n := 5) (q := 144) (lv' := [some (.ref 625), some (.int (vx_i v1)), some (.int (vx_i v2)), some (.int (vx_i v3)), some (.int (vx_i v4)), some (.int (vx_i ((vx_J h5 634 (v1 + (vx_J h5 644 v4.toNat)).toNat) + 1)))]) (by decide +kernel) rfl ?_
          refine vx_aload_n (n := 0) (q := 145) (by decide +kernel) rfl ?_
          refine vx_getR (b := 634) (idx := 35) (kd := 9) (s := 15) (fin := true) (q := 148) (by decide +kernel) (vx_Tk hT5 (by decide +kernel)) (vx_Tr hT5 (kd := 9) (by decide +kernel) (by decide +kernel) (by decide +kernel)) ?_
          refine vx_iload_n (n := 1) (q := 149) (by decide +kernel) rfl ?_
          refine vx_aload_n (n := 0) (q := 150) (by decide +kernel) rfl ?_
          refine vx_getR (b := 636) (idx := 41) (kd := 9) (s := 17) (fin := true) (q := 153) (by decide +kernel) (vx_Tk hT5 (by decide +kernel)) (vx_Tr hT5 (kd := 9) (by decide +kernel) (by decide +kernel) (by decide +kernel)) ?_
          refine vx_iload_n (n := 3) (q := 154) (by decide +kernel) rfl ?_
          obtain ⟨k27, H⟩ := H
          refine vx_iaload (z := 61) (q := 155) (by decide +kernel) (vx_Tk hT5 (by decide +kernel)) (vx_Tz hT5 (by decide +kernel)) (vx_ix k27 (by decide)) ?_
          refine vx_iadd (q := 156) (by decide +kernel) ?_
          obtain ⟨k28, H⟩ := H
          refine vx_iaload (z := 32) (q := 157) (by decide +kernel) (vx_Tk hT5 (by decide +kernel)) (vx_Tz hT5 (by decide +kernel)) (vx_ix k28 (by decide)) ?_
          refine vx_iload (n := 5) (q := 159) (by decide +kernel) rfl ?_
          obtain ⟨k29, H⟩ := H
          refine vx_icmp_lt (off := 6) (q := 162) (t := 165) (by decide +kernel) (vx_rI_J h5 634 (v1 + (vx_J h5 636 v3.toNat)).toNat) k29 (fun c30 => ?_) (fun c30 => ?_)
          · replace H := H.1 c30
            refine vx_aload_n (n := 0) (q := 166) (by decide +kernel) rfl ?_
            refine vx_getR (b := 634) (idx := 35) (kd := 9) (s := 15) (fin := true) (q := 169) (by decide +kernel) (vx_Tk hT5 (by decide +kernel)) (vx_Tr hT5 (kd := 9) (by decide +kernel) (by decide +kernel) (by decide +kernel)) ?_
            refine vx_iload_n (n := 1) (q := 170) (by decide +kernel) rfl ?_
            refine vx_aload_n (n := 0) (q := 171) (by decide +kernel) rfl ?_
            refine vx_getR (b := 636) (idx := 41) (kd := 9) (s := 17) (fin := true) (q := 174) (by decide +kernel) (vx_Tk hT5 (by decide +kernel)) (vx_Tr hT5 (kd := 9) (by decide +kernel) (by decide +kernel) (by decide +kernel)) ?_
            refine vx_iload_n (n := 3) (q := 175) (by decide +kernel) rfl ?_
            obtain ⟨k31, H⟩ := H
            refine vx_iaload (z := 61) (q := 176) (by decide +kernel) (vx_Tk hT5 (by decide +kernel)) (vx_Tz hT5 (by decide +kernel)) (vx_ix k31 (by decide)) ?_
            refine vx_iadd (q := 177) (by decide +kernel) ?_
            refine vx_iload (n := 5) (q := 179) (by decide +kernel) rfl ?_
            obtain ⟨k32, H⟩ := H
            refine vx_iastore (z := 32) (q := 180) (by decide +kernel) (vx_Tk hT5 (by decide +kernel)) (vx_Tz hT5 (by decide +kernel)) (vx_ix k32 (by decide)) (fun h33 e33 => ?_)
            have hT33 := vx_TJ hT5 e33
            replace H := H h33 e33 hT33
            refine vx_iconst (n := 1) (q := 181) (by decide +kernel) ?_
            refine vx_istore_n (n := 2) (q := 182) (lv' := [some (.ref 625), some (.int (vx_i v1)), some (.int (vx_i 1)), some (.int (vx_i v3)), some (.int (vx_i v4)), some (.int (vx_i ((vx_J h5 634 (v1 + (vx_J h5 644 v4.toNat)).toNat) + 1)))]) (by decide +kernel) rfl ?_
            refine vx_iinc (n := 4) (m := 1) (x := v4) (q := 185) (lv' := [some (.ref 625), some (.int (vx_i v1)), some (.int (vx_i 1)), some (.int (vx_i v3)), some (.int (vx_i (v4 + 1))), some (.int (vx_i ((vx_J h5 634 (v1 + (vx_J h5 644 v4.toNat)).toNat) + 1)))]) (by decide +kernel) rfl rfl ?_
            refine vx_goto (off := (-111)) (q := 188) (t := 74) (by decide +kernel) ?_
            exact H
          · replace H := H.2 c30
            refine vx_goto (off := 20) (q := 165) (t := 182) (by decide +kernel) ?_
            refine vx_iinc (n := 4) (m := 1) (x := v4) (q := 185) (lv' := [some (.ref 625), some (.int (vx_i v1)), some (.int (vx_i v2)), some (.int (vx_i v3)), some (.int (vx_i (v4 + 1))), some (.int (vx_i ((vx_J h5 634 (v1 + (vx_J h5 644 v4.toNat)).toNat) + 1)))]) (by decide +kernel) rfl rfl ?_
            refine vx_goto (off := (-111)) (q := 188) (t := 74) (by decide +kernel) ?_
            exact H
    · replace H := H.2 c6
      refine vx_goto (off := 83) (q := 102) (t := 182) (by decide +kernel) ?_
      refine vx_iinc (n := 4) (m := 1) (x := v4) (q := 185) (lv' := [some (.ref 625), some (.int (vx_i v1)), some (.int (vx_i v2)), some (.int (vx_i v3)), some (.int (vx_i (v4 + 1))), v5]) (by decide +kernel) rfl rfl ?_
      refine vx_goto (off := (-111)) (q := 188) (t := 74) (by decide +kernel) ?_
      exact H
-- RuleHouseModel.beginText()V
theorem vg_61 {d : Nat} {h : ve_H} {P : ve_H → Prop}  (hT : vx_T 625 672 h) (H : (∀ h1, h1 = vx_sJ h 625 3 0 → vx_T 625 672 h1 → (∀ h2, h2 = vx_sJ h1 625 4 0 → vx_T 625 672 h2 → vx_CV d 30 [.ref 625] h2 (fun h3 => vx_T 625 672 h3 → (∀ h4, h4 = vx_sJ h3 625 2 0 → vx_T 625 672 h4 → (∀ h5, h5 = vx_sJ h4 625 10 0 → vx_T 625 672 h5 → P h5)))))) : vx_CV (d + 1) 61 [.ref 625] h P := by
  refine vx_enter (ml := 1) (by decide +kernel) ?_
  show vx_W _ _ 0 [some (.ref 625)] [] h _
  refine vx_aload_n (n := 0) (q := 1) (by decide +kernel) rfl ?_
  refine vx_iconst (n := 0) (q := 2) (by decide +kernel) ?_
  refine vx_putI (idx := 201) (kd := 9) (s := 3) (fin := false) (q := 5) (by decide +kernel) (vx_Tk hT (by decide +kernel)) (fun h1 e1 => ?_)
  have hT1 := vx_TJ hT e1
  replace H := H h1 e1 hT1
  refine vx_aload_n (n := 0) (q := 6) (by decide +kernel) rfl ?_
  refine vx_iconst (n := 0) (q := 7) (by decide +kernel) ?_
  refine vx_putI (idx := 204) (kd := 9) (s := 4) (fin := false) (q := 10) (by decide +kernel) (vx_Tk hT1 (by decide +kernel)) (fun h2 e2 => ?_)
  have hT2 := vx_TJ hT1 e2
  replace H := H h2 e2 hT2
  refine vx_aload_n (n := 0) (q := 11) (by decide +kernel) rfl ?_
  refine vx_callV (i := .invokevirtual 336) (how := 3) (cm := 30) (np := 1) (q := 14) (args := [.ref 625]) (rest := []) (by decide +kernel) rfl rfl rfl (vx_w2 (w := 1) (ml := 3) rfl (by decide +kernel)) (vx_rcv (kd := 9) (vx_Tk hT2 (by decide +kernel)) (by decide +kernel)) H (fun h3 hs3 H => ?_)
  have hT3 := vx_Tsh hT2 hs3
  replace H := H hT3
  refine vx_aload_n (n := 0) (q := 15) (by decide +kernel) rfl ?_
  refine vx_iconst (n := 0) (q := 16) (by decide +kernel) ?_
  refine vx_putI (idx := 157) (kd := 9) (s := 2) (fin := false) (q := 19) (by decide +kernel) (vx_Tk hT3 (by decide +kernel)) (fun h4 e4 => ?_)
  have hT4 := vx_TJ hT3 e4
  replace H := H h4 e4 hT4
  refine vx_aload_n (n := 0) (q := 20) (by decide +kernel) rfl ?_
  refine vx_iconst (n := 0) (q := 21) (by decide +kernel) ?_
  refine vx_putI (idx := 207) (kd := 9) (s := 10) (fin := false) (q := 24) (by decide +kernel) (vx_Tk hT4 (by decide +kernel)) (fun h5 e5 => ?_)
  have hT5 := vx_TJ hT4 e5
  replace H := H h5 e5 hT5
  refine vx_retV (q := 25) (by decide +kernel) ?_
  exact H
-- RuleHouseModel.program()I
theorem vg_62 {d : Nat} {h : ve_H} {P : Int → ve_H → Prop}  (hT : vx_T 625 672 h) (H : vx_CV d 61 [.ref 625] h (fun h1 => vx_T 625 672 h1 → (∀ h2, h2 = vx_sJ h1 625 48 (1 - (vx_J h1 625 11)) → vx_T 625 672 h2 → (∀ h3, h3 = vx_sJ h2 625 49 1 → vx_T 625 672 h3 → (0 ≤ (vx_J h3 625 48) ∧ (vx_J h3 625 48) < 2) ∧ (∀ h5, h5 = vx_sJ h3 631 (vx_J h3 625 48).toNat 0 → vx_T 625 672 h5 → (0 ≤ (vx_J h5 625 48) ∧ (vx_J h5 625 48) < 2) ∧ (∀ h7, h7 = vx_sJ h5 635 (vx_J h5 625 48).toNat 0 → vx_T 625 672 h7 → (0 ≤ (vx_J h7 625 48) ∧ (vx_J h7 625 48) < 2) ∧ (∀ h9, h9 = vx_sJ h7 647 (vx_J h7 625 48).toNat 0 → vx_T 625 672 h9 → vx_W (d + 1) 62 51 [some (.ref 625), some (.int (vx_i 1))] [] h9 (vx_RI P)))))))) : vx_CI (d + 1) 62 [.ref 625] h P := by
  refine vx_enter (ml := 2) (by decide +kernel) ?_
  show vx_W _ _ 0 [some (.ref 625), none] [] h _
  refine vx_aload_n (n := 0) (q := 1) (by decide +kernel) rfl ?_
  refine vx_callV (i := .invokevirtual 339) (how := 3) (cm := 61) (np := 1) (q := 4) (args := [.ref 625]) (rest := []) (by decide +kernel) rfl rfl rfl (vx_w2 (w := 1) (ml := 1) rfl (by decide +kernel)) (vx_rcv (kd := 9) (vx_Tk hT (by decide +kernel)) (by decide +kernel)) H (fun h1 hs1 H => ?_)
  have hT1 := vx_Tsh hT hs1
  replace H := H hT1
  refine vx_aload_n (n := 0) (q := 5) (by decide +kernel) rfl ?_
  refine vx_iconst (n := 1) (q := 6) (by decide +kernel) ?_
  refine vx_aload_n (n := 0) (q := 7) (by decide +kernel) rfl ?_
  refine vx_getI (idx := 342) (kd := 9) (s := 11) (fin := false) (q := 10) (by decide +kernel) (vx_Tk hT1 (by decide +kernel)) ?_
  refine vx_isub (q := 11) (by decide +kernel) ?_
  refine vx_putI (idx := 238) (kd := 9) (s := 48) (fin := false) (q := 14) (by decide +kernel) (vx_Tk hT1 (by decide +kernel)) (fun h2 e2 => ?_)
  have hT2 := vx_TJ hT1 e2
  replace H := H h2 e2 hT2
  refine vx_aload_n (n := 0) (q := 15) (by decide +kernel) rfl ?_
  refine vx_iconst (n := 1) (q := 16) (by decide +kernel) ?_
  refine vx_putZ (idx := 245) (kd := 9) (s := 49) (fin := false) (q := 19) (by decide +kernel) (vx_Tk hT2 (by decide +kernel)) (Or.inr rfl) (fun h3 e3 => ?_)
  have hT3 := vx_TJ hT2 e3
  replace H := H h3 e3 hT3
  refine vx_aload_n (n := 0) (q := 20) (by decide +kernel) rfl ?_
  refine vx_getR (b := 631) (idx := 26) (kd := 9) (s := 12) (fin := true) (q := 23) (by decide +kernel) (vx_Tk hT3 (by decide +kernel)) (vx_Tr hT3 (kd := 9) (by decide +kernel) (by decide +kernel) (by decide +kernel)) ?_
  refine vx_aload_n (n := 0) (q := 24) (by decide +kernel) rfl ?_
  refine vx_getI (idx := 238) (kd := 9) (s := 48) (fin := false) (q := 27) (by decide +kernel) (vx_Tk hT3 (by decide +kernel)) ?_
  refine vx_iconst (n := 0) (q := 28) (by decide +kernel) ?_
  obtain ⟨k4, H⟩ := H
  refine vx_iastore (z := 2) (q := 29) (by decide +kernel) (vx_Tk hT3 (by decide +kernel)) (vx_Tz hT3 (by decide +kernel)) (vx_ix k4 (by decide)) (fun h5 e5 => ?_)
  have hT5 := vx_TJ hT3 e5
  replace H := H h5 e5 hT5
  refine vx_aload_n (n := 0) (q := 30) (by decide +kernel) rfl ?_
  refine vx_getR (b := 635) (idx := 38) (kd := 9) (s := 16) (fin := true) (q := 33) (by decide +kernel) (vx_Tk hT5 (by decide +kernel)) (vx_Tr hT5 (kd := 9) (by decide +kernel) (by decide +kernel) (by decide +kernel)) ?_
  refine vx_aload_n (n := 0) (q := 34) (by decide +kernel) rfl ?_
  refine vx_getI (idx := 238) (kd := 9) (s := 48) (fin := false) (q := 37) (by decide +kernel) (vx_Tk hT5 (by decide +kernel)) ?_
  refine vx_iconst (n := 0) (q := 38) (by decide +kernel) ?_
  obtain ⟨k6, H⟩ := H
  refine vx_iastore (z := 2) (q := 39) (by decide +kernel) (vx_Tk hT5 (by decide +kernel)) (vx_Tz hT5 (by decide +kernel)) (vx_ix k6 (by decide)) (fun h7 e7 => ?_)
  have hT7 := vx_TJ hT5 e7
  replace H := H h7 e7 hT7
  refine vx_aload_n (n := 0) (q := 40) (by decide +kernel) rfl ?_
  refine vx_getR (b := 647) (idx := 74) (kd := 9) (s := 28) (fin := true) (q := 43) (by decide +kernel) (vx_Tk hT7 (by decide +kernel)) (vx_Tr hT7 (kd := 9) (by decide +kernel) (by decide +kernel) (by decide +kernel)) ?_
  refine vx_aload_n (n := 0) (q := 44) (by decide +kernel) rfl ?_
  refine vx_getI (idx := 238) (kd := 9) (s := 48) (fin := false) (q := 47) (by decide +kernel) (vx_Tk hT7 (by decide +kernel)) ?_
  refine vx_iconst (n := 0) (q := 48) (by decide +kernel) ?_
  obtain ⟨k8, H⟩ := H
  refine vx_iastore (z := 2) (q := 49) (by decide +kernel) (vx_Tk hT7 (by decide +kernel)) (vx_Tz hT7 (by decide +kernel)) (vx_ix k8 (by decide)) (fun h9 e9 => ?_)
  have hT9 := vx_TJ hT7 e9
  replace H := H h9 e9 hT9
  refine vx_iconst (n := 1) (q := 50) (by decide +kernel) ?_
  refine vx_istore_n (n := 1) (q := 51) (lv' := [some (.ref 625), some (.int (vx_i 1))]) (by decide +kernel) rfl ?_
  exact H
theorem vg_62_51 {d : Nat} {h : ve_H} {P : Int → ve_H → Prop} {v1 : Int} (hT : vx_T 625 672 h) (H : (vx_rI v1) ∧ ((v1 = 0 → (((vx_J h 625 3) ≠ 0 → vx_CI d 20 [.ref 625, .int (vx_i 1)] h (fun r4 h4 => vx_T 625 672 h4 → P r4 h4)) ∧ ((vx_J h 625 3) = 0 → vx_CV d 59 [.ref 625] h (fun h5 => vx_T 625 672 h5 → (((vx_J h5 625 3) = 0 → vx_CV d 60 [.ref 625] h5 (fun h7 => vx_T 625 672 h7 → (∀ h8, h8 = vx_sJ h7 625 0 0 → vx_T 625 672 h8 → (∀ h9, h9 = vx_sJ h8 625 11 (vx_J h8 625 48) → vx_T 625 672 h9 → (∀ h10, h10 = vx_sJ h9 625 31 0 → vx_T 625 672 h10 → (∀ h11, h11 = vx_sJ h10 625 32 0 → vx_T 625 672 h11 → (0 ≤ (vx_J h8 625 48) ∧ (vx_J h8 625 48) < 2) ∧ P (vx_J h11 635 (vx_J h8 625 48).toNat) h11)))))) ∧ ((vx_J h5 625 3) ≠ 0 → vx_CI d 20 [.ref 625, .int (vx_i 1)] h5 (fun r13 h13 => vx_T 625 672 h13 → P r13 h13))))))) ∧ (v1 ≠ 0 → (0 ≤ (vx_J h 625 10) ∧ (vx_J h 625 10) < 602) ∧ (((vx_J h 627 (vx_J h 625 10).toNat) = 0 → (((vx_J h 625 3) ≠ 0 → vx_CI d 20 [.ref 625, .int (vx_i 1)] h (fun r17 h17 => vx_T 625 672 h17 → P r17 h17)) ∧ ((vx_J h 625 3) = 0 → vx_CV d 59 [.ref 625] h (fun h18 => vx_T 625 672 h18 → (((vx_J h18 625 3) = 0 → vx_CV d 60 [.ref 625] h18 (fun h20 => vx_T 625 672 h20 → (∀ h21, h21 = vx_sJ h20 625 0 0 → vx_T 625 672 h21 → (∀ h22, h22 = vx_sJ h21 625 11 (vx_J h21 625 48) → vx_T 625 672 h22 → (∀ h23, h23 = vx_sJ h22 625 31 0 → vx_T 625 672 h23 → (∀ h24, h24 = vx_sJ h23 625 32 0 → vx_T 625 672 h24 → (0 ≤ (vx_J h21 625 48) ∧ (vx_J h21 625 48) < 2) ∧ P (vx_J h24 635 (vx_J h21 625 48).toNat) h24)))))) ∧ ((vx_J h18 625 3) ≠ 0 → vx_CI d 20 [.ref 625, .int (vx_i 1)] h18 (fun r26 h26 => vx_T 625 672 h26 → P r26 h26))))))) ∧ ((vx_J h 627 (vx_J h 625 10).toNat) ≠ 0 → vx_CI d 55 [.ref 625] h (fun r27 h27 => vx_T 625 672 h27 → vx_W (d + 1) 62 51 [some (.ref 625), some (.int (vx_i r27))] [] h27 (vx_RI P))))))) : vx_W (d + 1) 62 51 [some (.ref 625), some (.int (vx_i v1))] [] h (vx_RI P) := by
  refine vx_iload_n (n := 1) (q := 52) (by decide +kernel) rfl ?_
  obtain ⟨k1, H⟩ := H
  refine vx_if0_eq (off := 23) (q := 55) (t := 75) (by decide +kernel) k1 (fun c2 => ?_) (fun c2 => ?_)
  · replace H := H.1 c2
    refine vx_aload_n (n := 0) (q := 76) (by decide +kernel) rfl ?_
    refine vx_getI (idx := 201) (kd := 9) (s := 3) (fin := false) (q := 79) (by decide +kernel) (vx_Tk hT (by decide +kernel)) ?_
    refine vx_if0_ne (off := 7) (q := 82) (t := 86) (by decide +kernel) (vx_rI_J h 625 3) (fun c3 => ?_) (fun c3 => ?_)
    · replace H := H.1 c3
      refine vx_aload_n (n := 0) (q := 87) (by decide +kernel) rfl ?_
      refine vx_getI (idx := 201) (kd := 9) (s := 3) (fin := false) (q := 90) (by decide +kernel) (vx_Tk hT (by decide +kernel)) ?_
      refine vx_if0_eq (off := 9) (q := 93) (t := 99) (by decide +kernel) (vx_rI_J h 625 3) (fun c => absurd c (by omega)) (fun _ => ?_)
      refine vx_aload_n (n := 0) (q := 94) (by decide +kernel) rfl ?_
      refine vx_iconst (n := 1) (q := 95) (by decide +kernel) ?_
      refine vx_callI (i := .invokevirtual 351) (how := 3) (cm := 20) (np := 2) (q := 98) (args := [.ref 625, .int (vx_i 1)]) (rest := []) (by decide +kernel) rfl rfl rfl (vx_w2 (w := 2) (ml := 2) rfl (by decide +kernel)) (vx_rcv (kd := 9) (vx_Tk hT (by decide +kernel)) (by decide +kernel)) H (fun r4 h4 hr4 hs4 H => ?_)
      have hT4 := vx_Tsh hT hs4
      replace H := H hT4
      refine vx_retI (q := 99) (by decide +kernel) hr4 ?_
      exact H
    · replace H := H.2 c3
      refine vx_aload_n (n := 0) (q := 83) (by decide +kernel) rfl ?_
      refine vx_callV (i := .invokevirtual 348) (how := 3) (cm := 59) (np := 1) (q := 86) (args := [.ref 625]) (rest := []) (by decide +kernel) rfl rfl rfl (vx_w2 (w := 1) (ml := 3) rfl (by decide +kernel)) (vx_rcv (kd := 9) (vx_Tk hT (by decide +kernel)) (by decide +kernel)) H (fun h5 hs5 H => ?_)
      have hT5 := vx_Tsh hT hs5
      replace H := H hT5
      refine vx_aload_n (n := 0) (q := 87) (by decide +kernel) rfl ?_
      refine vx_getI (idx := 201) (kd := 9) (s := 3) (fin := false) (q := 90) (by decide +kernel) (vx_Tk hT5 (by decide +kernel)) ?_
      refine vx_if0_eq (off := 9) (q := 93) (t := 99) (by decide +kernel) (vx_rI_J h5 625 3) (fun c6 => ?_) (fun c6 => ?_)
      · replace H := H.1 c6
        refine vx_aload_n (n := 0) (q := 100) (by decide +kernel) rfl ?_
        refine vx_callV (i := .invokevirtual 354) (how := 3) (cm := 60) (np := 1) (q := 103) (args := [.ref 625]) (rest := []) (by decide +kernel) rfl rfl rfl (vx_w2 (w := 1) (ml := 6) rfl (by decide +kernel)) (vx_rcv (kd := 9) (vx_Tk hT5 (by decide +kernel)) (by decide +kernel)) H (fun h7 hs7 H => ?_)
        have hT7 := vx_Tsh hT5 hs7
        replace H := H hT7
        refine vx_aload_n (n := 0) (q := 104) (by decide +kernel) rfl ?_
        refine vx_iconst (n := 0) (q := 105) (by decide +kernel) ?_
        refine vx_putI (idx := 154) (kd := 9) (s := 0) (fin := false) (q := 108) (by decide +kernel) (vx_Tk hT7 (by decide +kernel)) (fun h8 e8 => ?_)
        have hT8 := vx_TJ hT7 e8
        replace H := H h8 e8 hT8
        refine vx_aload_n (n := 0) (q := 109) (by decide +kernel) rfl ?_
        refine vx_aload_n (n := 0) (q := 110) (by decide +kernel) rfl ?_
        refine vx_getI (idx := 238) (kd := 9) (s := 48) (fin := false) (q := 113) (by decide +kernel) (vx_Tk hT8 (by decide +kernel)) ?_
        refine vx_putI (idx := 342) (kd := 9) (s := 11) (fin := false) (q := 116) (by decide +kernel) (vx_Tk hT8 (by decide +kernel)) (fun h9 e9 => ?_)
        have hT9 := vx_TJ hT8 e9
        replace H := H h9 e9 hT9
        refine vx_aload_n (n := 0) (q := 117) (by decide +kernel) rfl ?_
        refine vx_iconst (n := 0) (q := 118) (by decide +kernel) ?_
        refine vx_putI (idx := 83) (kd := 9) (s := 31) (fin := false) (q := 121) (by decide +kernel) (vx_Tk hT9 (by decide +kernel)) (fun h10 e10 => ?_)
        have hT10 := vx_TJ hT9 e10
        replace H := H h10 e10 hT10
        refine vx_aload_n (n := 0) (q := 122) (by decide +kernel) rfl ?_
        refine vx_iconst (n := 0) (q := 123) (by decide +kernel) ?_
        refine vx_putI (idx := 357) (kd := 9) (s := 32) (fin := false) (q := 126) (by decide +kernel) (vx_Tk hT10 (by decide +kernel)) (fun h11 e11 => ?_)
        have hT11 := vx_TJ hT10 e11
        replace H := H h11 e11 hT11
        refine vx_aload_n (n := 0) (q := 127) (by decide +kernel) rfl ?_
        refine vx_getR (b := 635) (idx := 38) (kd := 9) (s := 16) (fin := true) (q := 130) (by decide +kernel) (vx_Tk hT11 (by decide +kernel)) (vx_Tr hT11 (kd := 9) (by decide +kernel) (by decide +kernel) (by decide +kernel)) ?_
        refine vx_aload_n (n := 0) (q := 131) (by decide +kernel) rfl ?_
        refine vx_getI (idx := 342) (kd := 9) (s := 11) (fin := false) (q := 134) (by decide +kernel) (vx_Tk hT11 (by decide +kernel)) ?_
        rw [(vx_JtS e11 (by decide) (vx_JtS e10 (by decide) (vx_Jsm e9 (vx_rI_J h8 625 48))))]
        obtain ⟨k12, H⟩ := H
        refine vx_iaload (z := 2) (q := 135) (by decide +kernel) (vx_Tk hT11 (by decide +kernel)) (vx_Tz hT11 (by decide +kernel)) (vx_ix k12 (by decide)) ?_
        refine vx_retI (q := 136) (by decide +kernel) (vx_rI_J h11 635 (vx_J h8 625 48).toNat) ?_
        exact H
      · replace H := H.2 c6
        refine vx_aload_n (n := 0) (q := 94) (by decide +kernel) rfl ?_
        refine vx_iconst (n := 1) (q := 95) (by decide +kernel) ?_
        refine vx_callI (i := .invokevirtual 351) (how := 3) (cm := 20) (np := 2) (q := 98) (args := [.ref 625, .int (vx_i 1)]) (rest := []) (by decide +kernel) rfl rfl rfl (vx_w2 (w := 2) (ml := 2) rfl (by decide +kernel)) (vx_rcv (kd := 9) (vx_Tk hT5 (by decide +kernel)) (by decide +kernel)) H (fun r13 h13 hr13 hs13 H => ?_)
        have hT13 := vx_Tsh hT5 hs13
        replace H := H hT13
        refine vx_retI (q := 99) (by decide +kernel) hr13 ?_
        exact H
  · replace H := H.2 c2
    refine vx_aload_n (n := 0) (q := 56) (by decide +kernel) rfl ?_
    refine vx_getR (b := 627) (idx := 13) (kd := 9) (s := 6) (fin := true) (q := 59) (by decide +kernel) (vx_Tk hT (by decide +kernel)) (vx_Tr hT (kd := 9) (by decide +kernel) (by decide +kernel) (by decide +kernel)) ?_
    refine vx_aload_n (n := 0) (q := 60) (by decide +kernel) rfl ?_
    refine vx_getI (idx := 207) (kd := 9) (s := 10) (fin := false) (q := 63) (by decide +kernel) (vx_Tk hT (by decide +kernel)) ?_
    obtain ⟨k14, H⟩ := H
    refine vx_iaload (z := 602) (q := 64) (by decide +kernel) (vx_Tk hT (by decide +kernel)) (vx_Tz hT (by decide +kernel)) (vx_ix k14 (by decide)) ?_
    refine vx_if0_eq (off := 11) (q := 67) (t := 75) (by decide +kernel) (vx_rI_J h 627 (vx_J h 625 10).toNat) (fun c15 => ?_) (fun c15 => ?_)
    · replace H := H.1 c15
      refine vx_aload_n (n := 0) (q := 76) (by decide +kernel) rfl ?_
      refine vx_getI (idx := 201) (kd := 9) (s := 3) (fin := false) (q := 79) (by decide +kernel) (vx_Tk hT (by decide +kernel)) ?_
      refine vx_if0_ne (off := 7) (q := 82) (t := 86) (by decide +kernel) (vx_rI_J h 625 3) (fun c16 => ?_) (fun c16 => ?_)
      · replace H := H.1 c16
        refine vx_aload_n (n := 0) (q := 87) (by decide +kernel) rfl ?_
        refine vx_getI (idx := 201) (kd := 9) (s := 3) (fin := false) (q := 90) (by decide +kernel) (vx_Tk hT (by decide +kernel)) ?_
        refine vx_if0_eq (off := 9) (q := 93) (t := 99) (by decide +kernel) (vx_rI_J h 625 3) (fun c => absurd c (by omega)) (fun _ => ?_)
        refine vx_aload_n (n := 0) (q := 94) (by decide +kernel) rfl ?_
        refine vx_iconst (n := 1) (q := 95) (by decide +kernel) ?_
        refine vx_callI (i := .invokevirtual 351) (how := 3) (cm := 20) (np := 2) (q := 98) (args := [.ref 625, .int (vx_i 1)]) (rest := []) (by decide +kernel) rfl rfl rfl (vx_w2 (w := 2) (ml := 2) rfl (by decide +kernel)) (vx_rcv (kd := 9) (vx_Tk hT (by decide +kernel)) (by decide +kernel)) H (fun r17 h17 hr17 hs17 H => ?_)
        have hT17 := vx_Tsh hT hs17
        replace H := H hT17
        refine vx_retI (q := 99) (by decide +kernel) hr17 ?_
        exact H
      · replace H := H.2 c16
        refine vx_aload_n (n := 0) (q := 83) (by decide +kernel) rfl ?_
        refine vx_callV (i := .invokevirtual 348) (how := 3) (cm := 59) (np := 1) (q := 86) (args := [.ref 625]) (rest := []) (by decide +kernel) rfl rfl rfl (vx_w2 (w := 1) (ml := 3) rfl (by decide +kernel)) (vx_rcv (kd := 9) (vx_Tk hT (by decide +kernel)) (by decide +kernel)) H (fun h18 hs18 H => ?_)
        have hT18 := vx_Tsh hT hs18
        replace H := H hT18
        refine vx_aload_n (n := 0) (q := 87) (by decide +kernel) rfl ?_
        refine vx_getI (idx := 201) (kd := 9) (s := 3) (fin := false) (q := 90) (by decide +kernel) (vx_Tk hT18 (by decide +kernel)) ?_
        refine vx_if0_eq (off := 9) (q := 93) (t := 99) (by decide +kernel) (vx_rI_J h18 625 3) (fun c19 => ?_) (fun c19 => ?_)
        · replace H := H.1 c19
          refine vx_aload_n (n := 0) (q := 100) (by decide +kernel) rfl ?_
          refine vx_callV (i := .invokevirtual 354) (how := 3) (cm := 60) (np := 1) (q := 103) (args := [.ref 625]) (rest := []) (by decide +kernel) rfl rfl rfl (vx_w2 (w := 1) (ml := 6) rfl (by decide +kernel)) (vx_rcv (kd := 9) (vx_Tk hT18 (by decide +kernel)) (by decide +kernel)) H (fun h20 hs20 H => ?_)
          have hT20 := vx_Tsh hT18 hs20
          replace H := H hT20
          refine vx_aload_n (n := 0) (q := 104) (by decide +kernel) rfl ?_
          refine vx_iconst (n := 0) (q := 105) (by decide +kernel) ?_
          refine vx_putI (idx := 154) (kd := 9) (s := 0) (fin := false) (q := 108) (by decide +kernel) (vx_Tk hT20 (by decide +kernel)) (fun h21 e21 => ?_)
          have hT21 := vx_TJ hT20 e21
          replace H := H h21 e21 hT21
          refine vx_aload_n (n := 0) (q := 109) (by decide +kernel) rfl ?_
          refine vx_aload_n (n := 0) (q := 110) (by decide +kernel) rfl ?_
          refine vx_getI (idx := 238) (kd := 9) (s := 48) (fin := false) (q := 113) (by decide +kernel) (vx_Tk hT21 (by decide +kernel)) ?_
          refine vx_putI (idx := 342) (kd := 9) (s := 11) (fin := false) (q := 116) (by decide +kernel) (vx_Tk hT21 (by decide +kernel)) (fun h22 e22 => ?_)
          have hT22 := vx_TJ hT21 e22
          replace H := H h22 e22 hT22
          refine vx_aload_n (n := 0) (q := 117) (by decide +kernel) rfl ?_
          refine vx_iconst (n := 0) (q := 118) (by decide +kernel) ?_
          refine vx_putI (idx := 83) (kd := 9) (s := 31) (fin := false) (q := 121) (by decide +kernel) (vx_Tk hT22 (by decide +kernel)) (fun h23 e23 => ?_)
          have hT23 := vx_TJ hT22 e23
          replace H := H h23 e23 hT23
          refine vx_aload_n (n := 0) (q := 122) (by decide +kernel) rfl ?_
          refine vx_iconst (n := 0) (q := 123) (by decide +kernel) ?_
          refine vx_putI (idx := 357) (kd := 9) (s := 32) (fin := false) (q := 126) (by decide +kernel) (vx_Tk hT23 (by decide +kernel)) (fun h24 e24 => ?_)
          have hT24 := vx_TJ hT23 e24
          replace H := H h24 e24 hT24
          refine vx_aload_n (n := 0) (q := 127) (by decide +kernel) rfl ?_
          refine vx_getR (b := 635) (idx := 38) (kd := 9) (s := 16) (fin := true) (q := 130) (by decide +kernel) (vx_Tk hT24 (by decide +kernel)) (vx_Tr hT24 (kd := 9) (by decide +kernel) (by decide +kernel) (by decide +kernel)) ?_
          refine vx_aload_n (n := 0) (q := 131) (by decide +kernel) rfl ?_
          refine vx_getI (idx := 342) (kd := 9) (s := 11) (fin := false) (q := 134) (by decide +kernel) (vx_Tk hT24 (by decide +kernel)) ?_
          rw [(vx_JtS e24 (by decide) (vx_JtS e23 (by decide) (vx_Jsm e22 (vx_rI_J h21 625 48))))]
          obtain ⟨k25, H⟩ := H
          refine vx_iaload (z := 2) (q := 135) (by decide +kernel) (vx_Tk hT24 (by decide +kernel)) (vx_Tz hT24 (by decide +kernel)) (vx_ix k25 (by decide)) ?_
          refine vx_retI (q := 136) (by decide +kernel) (vx_rI_J h24 635 (vx_J h21 625 48).toNat) ?_
          exact H
        · replace H := H.2 c19
          refine vx_aload_n (n := 0) (q := 94) (by decide +kernel) rfl ?_
          refine vx_iconst (n := 1) (q := 95) (by decide +kernel) ?_
          refine vx_callI (i := .invokevirtual 351) (how := 3) (cm := 20) (np := 2) (q := 98) (args := [.ref 625, .int (vx_i 1)]) (rest := []) (by decide +kernel) rfl rfl rfl (vx_w2 (w := 2) (ml := 2) rfl (by decide +kernel)) (vx_rcv (kd := 9) (vx_Tk hT18 (by decide +kernel)) (by decide +kernel)) H (fun r26 h26 hr26 hs26 H => ?_)
          have hT26 := vx_Tsh hT18 hs26
          replace H := H hT26
          refine vx_retI (q := 99) (by decide +kernel) hr26 ?_
          exact H
    · replace H := H.2 c15
      refine vx_aload_n (n := 0) (q := 68) (by decide +kernel) rfl ?_
      refine vx_callI (i := .invokevirtual 345) (how := 3) (cm := 55) (np := 1) (q := 71) (args := [.ref 625]) (rest := []) (by decide +kernel) rfl rfl rfl (vx_w2 (w := 1) (ml := 2) rfl (by decide +kernel)) (vx_rcv (kd := 9) (vx_Tk hT (by decide +kernel)) (by decide +kernel)) H (fun r27 h27 hr27 hs27 H => ?_)
      have hT27 := vx_Tsh hT hs27
      replace H := H hT27
      refine vx_istore_n (n := 1) (q := 72) (lv' := [some (.ref 625), some (.int (vx_i r27))]) (by decide +kernel) rfl ?_
      refine vx_goto (off := (-21)) (q := 75) (t := 51) (by decide +kernel) ?_
      exact H
-- RuleHouseModel.fact(I)Z
theorem vg_63 {d : Nat} {h : ve_H} {P : Int → ve_H → Prop} {x1 : Int} (hT : vx_T 625 672 h) (H : (∀ h1, h1 = vx_sJ h 625 0 1 → vx_T 625 672 h1 → (vx_rI x1) ∧ ((x1 < 0 → (∀ h4, h4 = vx_sJ h1 625 3 0 → vx_T 625 672 h4 → (∀ h5, h5 = vx_sJ h4 625 4 0 → vx_T 625 672 h5 → (∀ h6, h6 = vx_sJ h5 625 2 0 → vx_T 625 672 h6 → P 0 h6)))) ∧ (0 ≤ x1 → ((x1 ≤ 1 → vx_W (d + 1) 63 31 [some (.ref 625), some (.int (vx_i x1)), none, none, none, none] [] h1 (vx_RI P)) ∧ (1 < x1 → (∀ h8, h8 = vx_sJ h1 625 3 0 → vx_T 625 672 h8 → (∀ h9, h9 = vx_sJ h8 625 4 0 → vx_T 625 672 h9 → (∀ h10, h10 = vx_sJ h9 625 2 0 → vx_T 625 672 h10 → P 0 h10))))))))) : vx_CI (d + 1) 63 [.ref 625, .int (vx_i x1)] h P := by
  refine vx_enter (ml := 6) (by decide +kernel) ?_
  show vx_W _ _ 0 [some (.ref 625), some (.int (vx_i x1)), none, none, none, none] [] h _
  refine vx_aload_n (n := 0) (q := 1) (by decide +kernel) rfl ?_
  refine vx_iconst (n := 1) (q := 2) (by decide +kernel) ?_
  refine vx_putI (idx := 154) (kd := 9) (s := 0) (fin := false) (q := 5) (by decide +kernel) (vx_Tk hT (by decide +kernel)) (fun h1 e1 => ?_)
  have hT1 := vx_TJ hT e1
  replace H := H h1 e1 hT1
  refine vx_iload_n (n := 1) (q := 6) (by decide +kernel) rfl ?_
  obtain ⟨k2, H⟩ := H
  refine vx_if0_lt (off := 8) (q := 9) (t := 14) (by decide +kernel) k2 (fun c3 => ?_) (fun c3 => ?_)
  · replace H := H.1 c3
    refine vx_aload_n (n := 0) (q := 15) (by decide +kernel) rfl ?_
    refine vx_iconst (n := 0) (q := 16) (by decide +kernel) ?_
    refine vx_putI (idx := 201) (kd := 9) (s := 3) (fin := false) (q := 19) (by decide +kernel) (vx_Tk hT1 (by decide +kernel)) (fun h4 e4 => ?_)
    have hT4 := vx_TJ hT1 e4
    replace H := H h4 e4 hT4
    refine vx_aload_n (n := 0) (q := 20) (by decide +kernel) rfl ?_
    refine vx_iconst (n := 0) (q := 21) (by decide +kernel) ?_
    refine vx_putI (idx := 204) (kd := 9) (s := 4) (fin := false) (q := 24) (by decide +kernel) (vx_Tk hT4 (by decide +kernel)) (fun h5 e5 => ?_)
    have hT5 := vx_TJ hT4 e5
    replace H := H h5 e5 hT5
    refine vx_aload_n (n := 0) (q := 25) (by decide +kernel) rfl ?_
    refine vx_iconst (n := 0) (q := 26) (by decide +kernel) ?_
    refine vx_putI (idx := 157) (kd := 9) (s := 2) (fin := false) (q := 29) (by decide +kernel) (vx_Tk hT5 (by decide +kernel)) (fun h6 e6 => ?_)
    have hT6 := vx_TJ hT5 e6
    replace H := H h6 e6 hT6
    refine vx_iconst (n := 0) (q := 30) (by decide +kernel) ?_
    refine vx_retZ (q := 31) (by decide +kernel) (Or.inl rfl) ?_
    exact H
  · replace H := H.2 c3
    refine vx_iload_n (n := 1) (q := 10) (by decide +kernel) rfl ?_
    refine vx_iconst (n := 1) (q := 11) (by decide +kernel) ?_
    refine vx_icmp_le (off := 20) (q := 14) (t := 31) (by decide +kernel) k2 (by decide) (fun c7 => ?_) (fun c7 => ?_)
    · replace H := H.1 c7
      exact H
    · replace H := H.2 c7
      refine vx_aload_n (n := 0) (q := 15) (by decide +kernel) rfl ?_
      refine vx_iconst (n := 0) (q := 16) (by decide +kernel) ?_
      refine vx_putI (idx := 201) (kd := 9) (s := 3) (fin := false) (q := 19) (by decide +kernel) (vx_Tk hT1 (by decide +kernel)) (fun h8 e8 => ?_)
      have hT8 := vx_TJ hT1 e8
      replace H := H h8 e8 hT8
      refine vx_aload_n (n := 0) (q := 20) (by decide +kernel) rfl ?_
      refine vx_iconst (n := 0) (q := 21) (by decide +kernel) ?_
      refine vx_putI (idx := 204) (kd := 9) (s := 4) (fin := false) (q := 24) (by decide +kernel) (vx_Tk hT8 (by decide +kernel)) (fun h9 e9 => ?_)
      have hT9 := vx_TJ hT8 e9
      replace H := H h9 e9 hT9
      refine vx_aload_n (n := 0) (q := 25) (by decide +kernel) rfl ?_
      refine vx_iconst (n := 0) (q := 26) (by decide +kernel) ?_
      refine vx_putI (idx := 157) (kd := 9) (s := 2) (fin := false) (q := 29) (by decide +kernel) (vx_Tk hT9 (by decide +kernel)) (fun h10 e10 => ?_)
      have hT10 := vx_TJ hT9 e10
      replace H := H h10 e10 hT10
      refine vx_iconst (n := 0) (q := 30) (by decide +kernel) ?_
      refine vx_retZ (q := 31) (by decide +kernel) (Or.inl rfl) ?_
      exact H
theorem vg_63_31 {d : Nat} {h : ve_H} {P : Int → ve_H → Prop} {v1 : Int} (hT : vx_T 625 672 h) (H : vx_CV d 61 [.ref 625] h (fun h1 => vx_T 625 672 h1 → (∀ h2, h2 = vx_sJ h1 625 48 (vx_J h1 625 11) → vx_T 625 672 h2 → (∀ h3, h3 = vx_sJ h2 625 49 0 → vx_T 625 672 h3 → vx_CV d 51 [.ref 625, .int (vx_i 60)] h3 (fun h4 => vx_T 625 672 h4 → vx_CI d 42 [.ref 625, .int (vx_i 1), .int (vx_i 0)] h4 (fun r5 h5 => vx_T 625 672 h5 → ((r5 = 0 → vx_W (d + 1) 63 99 [some (.ref 625), some (.int (vx_i v1)), some (.int (vx_i 0)), none, none, none] [] h5 (vx_RI P)) ∧ (r5 ≠ 0 → vx_CI d 36 [.ref 625, .int (vx_i 46)] h5 (fun r7 h7 => vx_T 625 672 h7 → ((r7 = 0 → vx_W (d + 1) 63 99 [some (.ref 625), some (.int (vx_i v1)), some (.int (vx_i 0)), none, none, none] [] h7 (vx_RI P)) ∧ (r7 ≠ 0 → (((vx_J h7 625 53) = ((-1)) → vx_W (d + 1) 63 99 [some (.ref 625), some (.int (vx_i v1)), some (.int (vx_i 1)), none, none, none] [] h7 (vx_RI P)) ∧ ((vx_J h7 625 53) ≠ ((-1)) → vx_CI d 32 [.ref 625, .int (vx_i (vx_J h7 625 53))] h7 (fun r10 h10 => vx_T 625 672 h10 → vx_W (d + 1) 63 99 [some (.ref 625), some (.int (vx_i v1)), some (.int (vx_i 1)), none, none, none] [] h10 (vx_RI P))))))))))))))) : vx_W (d + 1) 63 31 [some (.ref 625), some (.int (vx_i v1)), none, none, none, none] [] h (vx_RI P) := by
  refine vx_aload_n (n := 0) (q := 32) (by decide +kernel) rfl ?_
  refine vx_callV (i := .invokevirtual 339) (how := 3) (cm := 61) (np := 1) (q := 35) (args := [.ref 625]) (rest := []) (by decide +kernel) rfl rfl rfl (vx_w2 (w := 1) (ml := 1) rfl (by decide +kernel)) (vx_rcv (kd := 9) (vx_Tk hT (by decide +kernel)) (by decide +kernel)) H (fun h1 hs1 H => ?_)
  have hT1 := vx_Tsh hT hs1
  replace H := H hT1
  refine vx_aload_n (n := 0) (q := 36) (by decide +kernel) rfl ?_
  refine vx_aload_n (n := 0) (q := 37) (by decide +kernel) rfl ?_
  refine vx_getI (idx := 342) (kd := 9) (s := 11) (fin := false) (q := 40) (by decide +kernel) (vx_Tk hT1 (by decide +kernel)) ?_
  refine vx_putI (idx := 238) (kd := 9) (s := 48) (fin := false) (q := 43) (by decide +kernel) (vx_Tk hT1 (by decide +kernel)) (fun h2 e2 => ?_)
  have hT2 := vx_TJ hT1 e2
  replace H := H h2 e2 hT2
  refine vx_aload_n (n := 0) (q := 44) (by decide +kernel) rfl ?_
  refine vx_iconst (n := 0) (q := 45) (by decide +kernel) ?_
  refine vx_putZ (idx := 245) (kd := 9) (s := 49) (fin := false) (q := 48) (by decide +kernel) (vx_Tk hT2 (by decide +kernel)) (Or.inl rfl) (fun h3 e3 => ?_)
  have hT3 := vx_TJ hT2 e3
  replace H := H h3 e3 hT3
  refine vx_aload_n (n := 0) (q := 49) (by decide +kernel) rfl ?_
  refine vx_bipush (n := 60) (q := 51) (by decide +kernel) ?_
  refine vx_callV (i := .invokevirtual 308) (how := 3) (cm := 51) (np := 2) (q := 54) (args := [.ref 625, .int (vx_i 60)]) (rest := []) (by decide +kernel) rfl rfl rfl (vx_w2 (w := 2) (ml := 2) rfl (by decide +kernel)) (vx_rcv (kd := 9) (vx_Tk hT3 (by decide +kernel)) (by decide +kernel)) H (fun h4 hs4 H => ?_)
  have hT4 := vx_Tsh hT3 hs4
  replace H := H hT4
  refine vx_aload_n (n := 0) (q := 55) (by decide +kernel) rfl ?_
  refine vx_iconst (n := 1) (q := 56) (by decide +kernel) ?_
  refine vx_iconst (n := 0) (q := 57) (by decide +kernel) ?_
  refine vx_callI (i := .invokevirtual 284) (how := 3) (cm := 42) (np := 3) (q := 60) (args := [.ref 625, .int (vx_i 1), .int (vx_i 0)]) (rest := []) (by decide +kernel) rfl rfl rfl (vx_w2 (w := 3) (ml := 5) rfl (by decide +kernel)) (vx_rcv (kd := 9) (vx_Tk hT4 (by decide +kernel)) (by decide +kernel)) H (fun r5 h5 hr5 hs5 H => ?_)
  have hT5 := vx_Tsh hT4 hs5
  replace H := H hT5
  refine vx_if0_eq (off := 16) (q := 63) (t := 76) (by decide +kernel) hr5 (fun c6 => ?_) (fun c6 => ?_)
  · replace H := H.1 c6
    refine vx_iconst (n := 0) (q := 77) (by decide +kernel) ?_
    refine vx_istore_n (n := 2) (q := 78) (lv' := [some (.ref 625), some (.int (vx_i v1)), some (.int (vx_i 0)), none, none, none]) (by decide +kernel) rfl ?_
    refine vx_iload_n (n := 2) (q := 79) (by decide +kernel) rfl ?_
    refine vx_if0_eq (off := 20) (q := 82) (t := 99) (by decide +kernel) (by decide) (fun _ => ?_) (fun c => absurd c (by decide))
    exact H
  · replace H := H.2 c6
    refine vx_aload_n (n := 0) (q := 64) (by decide +kernel) rfl ?_
    refine vx_bipush (n := 46) (q := 66) (by decide +kernel) ?_
    refine vx_callI (i := .invokevirtual 256) (how := 3) (cm := 36) (np := 2) (q := 69) (args := [.ref 625, .int (vx_i 46)]) (rest := []) (by decide +kernel) rfl rfl rfl (vx_w2 (w := 2) (ml := 2) rfl (by decide +kernel)) (vx_rcv (kd := 9) (vx_Tk hT5 (by decide +kernel)) (by decide +kernel)) H (fun r7 h7 hr7 hs7 H => ?_)
    have hT7 := vx_Tsh hT5 hs7
    replace H := H hT7
    refine vx_if0_eq (off := 7) (q := 72) (t := 76) (by decide +kernel) hr7 (fun c8 => ?_) (fun c8 => ?_)
    · replace H := H.1 c8
      refine vx_iconst (n := 0) (q := 77) (by decide +kernel) ?_
      refine vx_istore_n (n := 2) (q := 78) (lv' := [some (.ref 625), some (.int (vx_i v1)), some (.int (vx_i 0)), none, none, none]) (by decide +kernel) rfl ?_
      refine vx_iload_n (n := 2) (q := 79) (by decide +kernel) rfl ?_
      refine vx_if0_eq (off := 20) (q := 82) (t := 99) (by decide +kernel) (by decide) (fun _ => ?_) (fun c => absurd c (by decide))
      exact H
    · replace H := H.2 c8
      refine vx_iconst (n := 1) (q := 73) (by decide +kernel) ?_
      refine vx_goto (off := 4) (q := 76) (t := 77) (by decide +kernel) ?_
      refine vx_istore_n (n := 2) (q := 78) (lv' := [some (.ref 625), some (.int (vx_i v1)), some (.int (vx_i 1)), none, none, none]) (by decide +kernel) rfl ?_
      refine vx_iload_n (n := 2) (q := 79) (by decide +kernel) rfl ?_
      refine vx_if0_eq (off := 20) (q := 82) (t := 99) (by decide +kernel) (by decide) (fun c => absurd c (by decide)) (fun _ => ?_)
      refine vx_aload_n (n := 0) (q := 83) (by decide +kernel) rfl ?_
      refine vx_getI (idx := 268) (kd := 9) (s := 53) (fin := false) (q := 86) (by decide +kernel) (vx_Tk hT7 (by decide +kernel)) ?_
      refine vx_iconst (n := (-1)) (q := 87) (by decide +kernel) ?_
      refine vx_icmp_eq (off := 12) (q := 90) (t := 99) (by decide +kernel) (vx_rI_J h7 625 53) (by decide) (fun c9 => ?_) (fun c9 => ?_)
      · replace H := H.1 c9
        exact H
      · replace H := H.2 c9
        refine vx_aload_n (n := 0) (q := 91) (by decide +kernel) rfl ?_
        refine vx_aload_n (n := 0) (q := 92) (by decide +kernel) rfl ?_
        refine vx_getI (idx := 268) (kd := 9) (s := 53) (fin := false) (q := 95) (by decide +kernel) (vx_Tk hT7 (by decide +kernel)) ?_
        refine vx_callI (i := .invokevirtual 210) (how := 3) (cm := 32) (np := 2) (q := 98) (args := [.ref 625, .int (vx_i (vx_J h7 625 53))]) (rest := []) (by decide +kernel) rfl rfl rfl (vx_w2 (w := 2) (ml := 2) rfl (by decide +kernel)) (vx_rcv (kd := 9) (vx_Tk hT7 (by decide +kernel)) (by decide +kernel)) H (fun r10 h10 hr10 hs10 H => ?_)
        have hT10 := vx_Tsh hT7 hs10
        replace H := H hT10
        refine vx_popI (q := 99) (by decide +kernel) ?_
        exact H
theorem vg_63_99 {d : Nat} {h : ve_H} {P : Int → ve_H → Prop} {v1 : Int} {v2 : Int} (hT : vx_T 625 672 h) (H : (vx_rI v2) ∧ ((v2 = 0 → vx_W (d + 1) 63 128 [some (.ref 625), some (.int (vx_i v1)), some (.int (vx_i v2)), none, none, none] [] h (vx_RI P)) ∧ (v2 ≠ 0 → (((vx_J h 625 3) = 1 → vx_W (d + 1) 63 128 [some (.ref 625), some (.int (vx_i v1)), some (.int (vx_i v2)), none, none, none] [] h (vx_RI P)) ∧ ((vx_J h 625 3) ≠ 1 → (0 ≤ (vx_J h 625 10) ∧ (vx_J h 625 10) < 602) ∧ (((vx_J h 627 (vx_J h 625 10).toNat) = 0 → vx_W (d + 1) 63 128 [some (.ref 625), some (.int (vx_i v1)), some (.int (vx_i v2)), none, none, none] [] h (vx_RI P)) ∧ ((vx_J h 627 (vx_J h 625 10).toNat) ≠ 0 → vx_CI d 33 [.ref 625] h (fun r6 h6 => vx_T 625 672 h6 → vx_W (d + 1) 63 128 [some (.ref 625), some (.int (vx_i v1)), some (.int (vx_i v2)), none, none, none] [] h6 (vx_RI P))))))))) : vx_W (d + 1) 63 99 [some (.ref 625), some (.int (vx_i v1)), some (.int (vx_i v2)), none, none, none] [] h (vx_RI P) := by
  refine vx_iload_n (n := 2) (q := 100) (by decide +kernel) rfl ?_
  obtain ⟨k1, H⟩ := H
  refine vx_if0_eq (off := 28) (q := 103) (t := 128) (by decide +kernel) k1 (fun c2 => ?_) (fun c2 => ?_)
  · replace H := H.1 c2
    exact H
  · replace H := H.2 c2
    refine vx_aload_n (n := 0) (q := 104) (by decide +kernel) rfl ?_
    refine vx_getI (idx := 201) (kd := 9) (s := 3) (fin := false) (q := 107) (by decide +kernel) (vx_Tk hT (by decide +kernel)) ?_
    refine vx_iconst (n := 1) (q := 108) (by decide +kernel) ?_
    refine vx_icmp_eq (off := 20) (q := 111) (t := 128) (by decide +kernel) (vx_rI_J h 625 3) (by decide) (fun c3 => ?_) (fun c3 => ?_)
    · replace H := H.1 c3
      exact H
    · replace H := H.2 c3
      refine vx_aload_n (n := 0) (q := 112) (by decide +kernel) rfl ?_
      refine vx_getR (b := 627) (idx := 13) (kd := 9) (s := 6) (fin := true) (q := 115) (by decide +kernel) (vx_Tk hT (by decide +kernel)) (vx_Tr hT (kd := 9) (by decide +kernel) (by decide +kernel) (by decide +kernel)) ?_
      refine vx_aload_n (n := 0) (q := 116) (by decide +kernel) rfl ?_
      refine vx_getI (idx := 207) (kd := 9) (s := 10) (fin := false) (q := 119) (by decide +kernel) (vx_Tk hT (by decide +kernel)) ?_
      obtain ⟨k4, H⟩ := H
      refine vx_iaload (z := 602) (q := 120) (by decide +kernel) (vx_Tk hT (by decide +kernel)) (vx_Tz hT (by decide +kernel)) (vx_ix k4 (by decide)) ?_
      refine vx_if0_eq (off := 8) (q := 123) (t := 128) (by decide +kernel) (vx_rI_J h 627 (vx_J h 625 10).toNat) (fun c5 => ?_) (fun c5 => ?_)
      · replace H := H.1 c5
        exact H
      · replace H := H.2 c5
        refine vx_aload_n (n := 0) (q := 124) (by decide +kernel) rfl ?_
        refine vx_callI (i := .invokevirtual 219) (how := 3) (cm := 33) (np := 1) (q := 127) (args := [.ref 625]) (rest := []) (by decide +kernel) rfl rfl rfl (vx_w2 (w := 1) (ml := 1) rfl (by decide +kernel)) (vx_rcv (kd := 9) (vx_Tk hT (by decide +kernel)) (by decide +kernel)) H (fun r6 h6 hr6 hs6 H => ?_)
        have hT6 := vx_Tsh hT hs6
        replace H := H hT6
        refine vx_popI (q := 128) (by decide +kernel) ?_
        exact H
theorem vg_63_128 {d : Nat} {h : ve_H} {P : Int → ve_H → Prop} {v1 : Int} {v2 : Int} (hT : vx_T 625 672 h) (H : (((vx_J h 625 3) = 0 → vx_CI d 53 [.ref 625] h (fun r2 h2 => vx_T 625 672 h2 → (vx_rI v1) ∧ ((v1 ≠ 1 → (∀ h5, h5 = vx_sJ h2 625 0 0 → vx_T 625 672 h5 → ((r2 = ((-1)) → P 0 h5) ∧ (r2 ≠ ((-1)) → vx_W (d + 1) 63 208 [some (.ref 625), some (.int (vx_i v1)), some (.int (vx_i v2)), some (.int (vx_i r2)), none, none] [] h5 (vx_RI P))))) ∧ (v1 = 1 → ((r2 ≠ ((-1)) → (∀ h8, h8 = vx_sJ h2 625 0 0 → vx_T 625 672 h8 → P 0 h8)) ∧ (r2 = ((-1)) → (0 ≤ (vx_J h2 625 11) ∧ (vx_J h2 625 11) < 2) ∧ (((vx_J h2 647 (vx_J h2 625 11).toNat) ≠ 200 → (∀ h11, h11 = vx_sJ h2 625 0 0 → vx_T 625 672 h11 → vx_W (d + 1) 63 208 [some (.ref 625), some (.int (vx_i v1)), some (.int (vx_i v2)), some (.int (vx_i r2)), none, none] [] h11 (vx_RI P))) ∧ ((vx_J h2 647 (vx_J h2 625 11).toNat) = 200 → (∀ h12, h12 = vx_sJ h2 625 0 2 → vx_T 625 672 h12 → P 0 h12))))))))) ∧ ((vx_J h 625 3) ≠ 0 → P 0 h))) : vx_W (d + 1) 63 128 [some (.ref 625), some (.int (vx_i v1)), some (.int (vx_i v2)), none, none, none] [] h (vx_RI P) := by
  refine vx_aload_n (n := 0) (q := 129) (by decide +kernel) rfl ?_
  refine vx_getI (idx := 201) (kd := 9) (s := 3) (fin := false) (q := 132) (by decide +kernel) (vx_Tk hT (by decide +kernel)) ?_
  refine vx_if0_eq (off := 5) (q := 135) (t := 137) (by decide +kernel) (vx_rI_J h 625 3) (fun c1 => ?_) (fun c1 => ?_)
  · replace H := H.1 c1
    refine vx_aload_n (n := 0) (q := 138) (by decide +kernel) rfl ?_
    refine vx_callI (i := .invokevirtual 315) (how := 3) (cm := 53) (np := 1) (q := 141) (args := [.ref 625]) (rest := []) (by decide +kernel) rfl rfl rfl (vx_w2 (w := 1) (ml := 4) rfl (by decide +kernel)) (vx_rcv (kd := 9) (vx_Tk hT (by decide +kernel)) (by decide +kernel)) H (fun r2 h2 hr2 hs2 H => ?_)
    have hT2 := vx_Tsh hT hs2
    replace H := H hT2
    refine vx_istore_n (n := 3) (q := 142) (lv' := [some (.ref 625), some (.int (vx_i v1)), some (.int (vx_i v2)), some (.int (vx_i r2)), none, none]) (by decide +kernel) rfl ?_
    refine vx_aload_n (n := 0) (q := 143) (by decide +kernel) rfl ?_
    refine vx_iload_n (n := 1) (q := 144) (by decide +kernel) rfl ?_
    refine vx_iconst (n := 1) (q := 145) (by decide +kernel) ?_
    obtain ⟨k3, H⟩ := H
    refine vx_icmp_ne (off := 27) (q := 148) (t := 172) (by decide +kernel) k3 (by decide) (fun c4 => ?_) (fun c4 => ?_)
    · replace H := H.1 c4
      refine vx_iconst (n := 0) (q := 173) (by decide +kernel) ?_
      refine vx_putI (idx := 154) (kd := 9) (s := 0) (fin := false) (q := 176) (by decide +kernel) (vx_Tk hT2 (by decide +kernel)) (fun h5 e5 => ?_)
      have hT5 := vx_TJ hT2 e5
      replace H := H h5 e5 hT5
      refine vx_aload_n (n := 0) (q := 177) (by decide +kernel) rfl ?_
      refine vx_getI (idx := 154) (kd := 9) (s := 0) (fin := false) (q := 180) (by decide +kernel) (vx_Tk hT5 (by decide +kernel)) ?_
      rw [(vx_Jsm e5 (by decide))]
      refine vx_if0_gt (off := 26) (q := 183) (t := 206) (by decide +kernel) (by decide) (fun c => absurd c (by decide)) (fun _ => ?_)
      refine vx_iload_n (n := 1) (q := 184) (by decide +kernel) rfl ?_
      refine vx_iconst (n := 1) (q := 185) (by decide +kernel) ?_
      refine vx_icmp_ne (off := 7) (q := 188) (t := 192) (by decide +kernel) k3 (by decide) (fun _ => ?_) (fun c => absurd c (by omega))
      refine vx_iconst (n := 0) (q := 193) (by decide +kernel) ?_
      refine vx_iload_n (n := 3) (q := 194) (by decide +kernel) rfl ?_
      refine vx_iconst (n := (-1)) (q := 195) (by decide +kernel) ?_
      refine vx_icmp_eq (off := 7) (q := 198) (t := 202) (by decide +kernel) hr2 (by decide) (fun c6 => ?_) (fun c6 => ?_)
      · replace H := H.1 c6
        refine vx_iconst (n := 0) (q := 203) (by decide +kernel) ?_
        refine vx_icmp_ne (off := 5) (q := 206) (t := 208) (by decide +kernel) (by decide) (by decide) (fun c => absurd c (by decide)) (fun _ => ?_)
        refine vx_iconst (n := 0) (q := 207) (by decide +kernel) ?_
        refine vx_retZ (q := 208) (by decide +kernel) (Or.inl rfl) ?_
        exact H
      · replace H := H.2 c6
        refine vx_iconst (n := 1) (q := 199) (by decide +kernel) ?_
        refine vx_goto (off := 4) (q := 202) (t := 203) (by decide +kernel) ?_
        refine vx_icmp_ne (off := 5) (q := 206) (t := 208) (by decide +kernel) (by decide) (by decide) (fun _ => ?_) (fun c => absurd c (by decide))
        exact H
    · replace H := H.2 c4
      refine vx_iload_n (n := 3) (q := 149) (by decide +kernel) rfl ?_
      refine vx_iconst (n := (-1)) (q := 150) (by decide +kernel) ?_
      refine vx_icmp_ne (off := 22) (q := 153) (t := 172) (by decide +kernel) hr2 (by decide) (fun c7 => ?_) (fun c7 => ?_)
      · replace H := H.1 c7
        refine vx_iconst (n := 0) (q := 173) (by decide +kernel) ?_
        refine vx_putI (idx := 154) (kd := 9) (s := 0) (fin := false) (q := 176) (by decide +kernel) (vx_Tk hT2 (by decide +kernel)) (fun h8 e8 => ?_)
        have hT8 := vx_TJ hT2 e8
        replace H := H h8 e8 hT8
        refine vx_aload_n (n := 0) (q := 177) (by decide +kernel) rfl ?_
        refine vx_getI (idx := 154) (kd := 9) (s := 0) (fin := false) (q := 180) (by decide +kernel) (vx_Tk hT8 (by decide +kernel)) ?_
        rw [(vx_Jsm e8 (by decide))]
        refine vx_if0_gt (off := 26) (q := 183) (t := 206) (by decide +kernel) (by decide) (fun c => absurd c (by decide)) (fun _ => ?_)
        refine vx_iload_n (n := 1) (q := 184) (by decide +kernel) rfl ?_
        refine vx_iconst (n := 1) (q := 185) (by decide +kernel) ?_
        refine vx_icmp_ne (off := 7) (q := 188) (t := 192) (by decide +kernel) k3 (by decide) (fun c => absurd c (by omega)) (fun _ => ?_)
        refine vx_iconst (n := 1) (q := 189) (by decide +kernel) ?_
        refine vx_goto (off := 4) (q := 192) (t := 193) (by decide +kernel) ?_
        refine vx_iload_n (n := 3) (q := 194) (by decide +kernel) rfl ?_
        refine vx_iconst (n := (-1)) (q := 195) (by decide +kernel) ?_
        refine vx_icmp_eq (off := 7) (q := 198) (t := 202) (by decide +kernel) hr2 (by decide) (fun c => absurd c (by omega)) (fun _ => ?_)
        refine vx_iconst (n := 1) (q := 199) (by decide +kernel) ?_
        refine vx_goto (off := 4) (q := 202) (t := 203) (by decide +kernel) ?_
        refine vx_icmp_ne (off := 5) (q := 206) (t := 208) (by decide +kernel) (by decide) (by decide) (fun c => absurd c (by decide)) (fun _ => ?_)
        refine vx_iconst (n := 0) (q := 207) (by decide +kernel) ?_
        refine vx_retZ (q := 208) (by decide +kernel) (Or.inl rfl) ?_
        exact H
      · replace H := H.2 c7
        refine vx_aload_n (n := 0) (q := 154) (by decide +kernel) rfl ?_
        refine vx_getR (b := 647) (idx := 74) (kd := 9) (s := 28) (fin := true) (q := 157) (by decide +kernel) (vx_Tk hT2 (by decide +kernel)) (vx_Tr hT2 (kd := 9) (by decide +kernel) (by decide +kernel) (by decide +kernel)) ?_
        refine vx_aload_n (n := 0) (q := 158) (by decide +kernel) rfl ?_
        refine vx_getI (idx := 342) (kd := 9) (s := 11) (fin := false) (q := 161) (by decide +kernel) (vx_Tk hT2 (by decide +kernel)) ?_
        obtain ⟨k9, H⟩ := H
        refine vx_iaload (z := 2) (q := 162) (by decide +kernel) (vx_Tk hT2 (by decide +kernel)) (vx_Tz hT2 (by decide +kernel)) (vx_ix k9 (by decide)) ?_
        refine vx_sipush (n := 200) (q := 165) (by decide +kernel) ?_
        refine vx_icmp_ne (off := 7) (q := 168) (t := 172) (by decide +kernel) (vx_rI_J h2 647 (vx_J h2 625 11).toNat) (by decide) (fun c10 => ?_) (fun c10 => ?_)
        · replace H := H.1 c10
          refine vx_iconst (n := 0) (q := 173) (by decide +kernel) ?_
          refine vx_putI (idx := 154) (kd := 9) (s := 0) (fin := false) (q := 176) (by decide +kernel) (vx_Tk hT2 (by decide +kernel)) (fun h11 e11 => ?_)
          have hT11 := vx_TJ hT2 e11
          replace H := H h11 e11 hT11
          refine vx_aload_n (n := 0) (q := 177) (by decide +kernel) rfl ?_
          refine vx_getI (idx := 154) (kd := 9) (s := 0) (fin := false) (q := 180) (by decide +kernel) (vx_Tk hT11 (by decide +kernel)) ?_
          rw [(vx_Jsm e11 (by decide))]
          refine vx_if0_gt (off := 26) (q := 183) (t := 206) (by decide +kernel) (by decide) (fun c => absurd c (by decide)) (fun _ => ?_)
          refine vx_iload_n (n := 1) (q := 184) (by decide +kernel) rfl ?_
          refine vx_iconst (n := 1) (q := 185) (by decide +kernel) ?_
          refine vx_icmp_ne (off := 7) (q := 188) (t := 192) (by decide +kernel) k3 (by decide) (fun c => absurd c (by omega)) (fun _ => ?_)
          refine vx_iconst (n := 1) (q := 189) (by decide +kernel) ?_
          refine vx_goto (off := 4) (q := 192) (t := 193) (by decide +kernel) ?_
          refine vx_iload_n (n := 3) (q := 194) (by decide +kernel) rfl ?_
          refine vx_iconst (n := (-1)) (q := 195) (by decide +kernel) ?_
          refine vx_icmp_eq (off := 7) (q := 198) (t := 202) (by decide +kernel) hr2 (by decide) (fun _ => ?_) (fun c => absurd c (by omega))
          refine vx_iconst (n := 0) (q := 203) (by decide +kernel) ?_
          refine vx_icmp_ne (off := 5) (q := 206) (t := 208) (by decide +kernel) (by decide) (by decide) (fun _ => ?_) (fun c => absurd c (by decide))
          exact H
        · replace H := H.2 c10
          refine vx_iconst (n := 2) (q := 169) (by decide +kernel) ?_
          refine vx_goto (off := 4) (q := 172) (t := 173) (by decide +kernel) ?_
          refine vx_putI (idx := 154) (kd := 9) (s := 0) (fin := false) (q := 176) (by decide +kernel) (vx_Tk hT2 (by decide +kernel)) (fun h12 e12 => ?_)
          have hT12 := vx_TJ hT2 e12
          replace H := H h12 e12 hT12
          refine vx_aload_n (n := 0) (q := 177) (by decide +kernel) rfl ?_
          refine vx_getI (idx := 154) (kd := 9) (s := 0) (fin := false) (q := 180) (by decide +kernel) (vx_Tk hT12 (by decide +kernel)) ?_
          rw [(vx_Jsm e12 (by decide))]
          refine vx_if0_gt (off := 26) (q := 183) (t := 206) (by decide +kernel) (by decide) (fun _ => ?_) (fun c => absurd c (by decide))
          refine vx_iconst (n := 0) (q := 207) (by decide +kernel) ?_
          refine vx_retZ (q := 208) (by decide +kernel) (Or.inl rfl) ?_
          exact H
  · replace H := H.2 c1
    refine vx_iconst (n := 0) (q := 136) (by decide +kernel) ?_
    refine vx_retZ (q := 137) (by decide +kernel) (Or.inl rfl) ?_
    exact H
theorem vg_63_208 {d : Nat} {h : ve_H} {P : Int → ve_H → Prop} {v1 : Int} {v2 : Int} {v3 : Int} (hT : vx_T 625 672 h) (H : (vx_rI v1) ∧ ((v1 ≠ 1 → (0 ≤ (vx_J h 625 11) ∧ (vx_J h 625 11) < 2) ∧ (0 ≤ (vx_J h 625 11) ∧ (vx_J h 625 11) < 2) ∧ (∀ h5, h5 = vx_sJ h 647 (vx_J h 625 11).toNat ((vx_J h 647 (vx_J h 625 11).toNat) - 1) → vx_T 625 672 h5 → vx_W (d + 1) 63 236 [some (.ref 625), some (.int (vx_i v1)), some (.int (vx_i v2)), some (.int (vx_i v3)), some (.int (vx_i v3)), none] [] h5 (vx_RI P))) ∧ (v1 = 1 → vx_CV d 54 [.ref 625] h (fun h6 => vx_T 625 672 h6 → vx_W (d + 1) 63 322 [some (.ref 625), some (.int (vx_i v1)), some (.int (vx_i v2)), some (.int (vx_i v3)), none, none] [] h6 (vx_RI P))))) : vx_W (d + 1) 63 208 [some (.ref 625), some (.int (vx_i v1)), some (.int (vx_i v2)), some (.int (vx_i v3)), none, none] [] h (vx_RI P) := by
  refine vx_iload_n (n := 1) (q := 209) (by decide +kernel) rfl ?_
  refine vx_iconst (n := 1) (q := 210) (by decide +kernel) ?_
  obtain ⟨k1, H⟩ := H
  refine vx_icmp_ne (off := 10) (q := 213) (t := 220) (by decide +kernel) k1 (by decide) (fun c2 => ?_) (fun c2 => ?_)
  · replace H := H.1 c2
    refine vx_aload_n (n := 0) (q := 221) (by decide +kernel) rfl ?_
    refine vx_getR (b := 647) (idx := 74) (kd := 9) (s := 28) (fin := true) (q := 224) (by decide +kernel) (vx_Tk hT (by decide +kernel)) (vx_Tr hT (kd := 9) (by decide +kernel) (by decide +kernel) (by decide +kernel)) ?_
    refine vx_aload_n (n := 0) (q := 225) (by decide +kernel) rfl ?_
    refine vx_getI (idx := 342) (kd := 9) (s := 11) (fin := false) (q := 228) (by decide +kernel) (vx_Tk hT (by decide +kernel)) ?_
    refine vx_dup2I (q := 229) (by decide +kernel) ?_
    obtain ⟨k3, H⟩ := H
    refine vx_iaload (z := 2) (q := 230) (by decide +kernel) (vx_Tk hT (by decide +kernel)) (vx_Tz hT (by decide +kernel)) (vx_ix k3 (by decide)) ?_
    refine vx_iconst (n := 1) (q := 231) (by decide +kernel) ?_
    refine vx_isub (q := 232) (by decide +kernel) ?_
    obtain ⟨k4, H⟩ := H
    refine vx_iastore (z := 2) (q := 233) (by decide +kernel) (vx_Tk hT (by decide +kernel)) (vx_Tz hT (by decide +kernel)) (vx_ix k4 (by decide)) (fun h5 e5 => ?_)
    have hT5 := vx_TJ hT e5
    replace H := H h5 e5 hT5
    refine vx_iload_n (n := 3) (q := 234) (by decide +kernel) rfl ?_
    refine vx_istore (n := 4) (q := 236) (lv' := [some (.ref 625), some (.int (vx_i v1)), some (.int (vx_i v2)), some (.int (vx_i v3)), some (.int (vx_i v3)), none]) (by decide +kernel) rfl ?_
    exact H
  · replace H := H.2 c2
    refine vx_aload_n (n := 0) (q := 214) (by decide +kernel) rfl ?_
    refine vx_callV (i := .invokevirtual 318) (how := 3) (cm := 54) (np := 1) (q := 217) (args := [.ref 625]) (rest := []) (by decide +kernel) rfl rfl rfl (vx_w2 (w := 1) (ml := 3) rfl (by decide +kernel)) (vx_rcv (kd := 9) (vx_Tk hT (by decide +kernel)) (by decide +kernel)) H (fun h6 hs6 H => ?_)
    have hT6 := vx_Tsh hT hs6
    replace H := H hT6
    refine vx_goto (off := 105) (q := 220) (t := 322) (by decide +kernel) ?_
    exact H
theorem vg_63_236 {d : Nat} {h : ve_H} {P : Int → ve_H → Prop} {v1 : Int} {v2 : Int} {v3 : Int} {v4 : Int} {v5 : Option Value} (hT : vx_T 625 672 h) (H : (0 ≤ (vx_J h 625 11) ∧ (vx_J h 625 11) < 2) ∧ (vx_rI v4) ∧ (vx_rI ((400 * (vx_J h 625 11)) + (vx_J h 647 (vx_J h 625 11).toNat))) ∧ ((((400 * (vx_J h 625 11)) + (vx_J h 647 (vx_J h 625 11).toNat)) ≤ v4 → vx_W (d + 1) 63 322 [some (.ref 625), some (.int (vx_i v1)), some (.int (vx_i v2)), some (.int (vx_i v3)), some (.int (vx_i v4)), v5] [] h (vx_RI P)) ∧ (v4 < ((400 * (vx_J h 625 11)) + (vx_J h 647 (vx_J h 625 11).toNat)) → (0 ≤ (v4 + 1) ∧ (v4 + 1) < 800) ∧ (0 ≤ v4 ∧ v4 < 800) ∧ (∀ h7, h7 = vx_sJ h 648 v4.toNat (vx_J h 648 (v4 + 1).toNat) → vx_T 625 672 h7 → vx_W (d + 1) 63 278 [some (.ref 625), some (.int (vx_i v1)), some (.int (vx_i v2)), some (.int (vx_i v3)), some (.int (vx_i v4)), some (.int (vx_i 0))] [] h7 (vx_RI P))))) : vx_W (d + 1) 63 236 [some (.ref 625), some (.int (vx_i v1)), some (.int (vx_i v2)), some (.int (vx_i v3)), some (.int (vx_i v4)), v5] [] h (vx_RI P) := by
  refine vx_iload (n := 4) (q := 238) (by decide +kernel) rfl ?_
  refine vx_sipush (n := 400) (q := 241) (by decide +kernel) ?_
  refine vx_aload_n (n := 0) (q := 242) (by decide +kernel) rfl ?_
  refine vx_getI (idx := 342) (kd := 9) (s := 11) (fin := false) (q := 245) (by decide +kernel) (vx_Tk hT (by decide +kernel)) ?_
  refine vx_imul (q := 246) (by decide +kernel) ?_
  refine vx_aload_n (n := 0) (q := 247) (by decide +kernel) rfl ?_
  refine vx_getR (b := 647) (idx := 74) (kd := 9) (s := 28) (fin := true) (q := 250) (by decide +kernel) (vx_Tk hT (by decide +kernel)) (vx_Tr hT (kd := 9) (by decide +kernel) (by decide +kernel) (by decide +kernel)) ?_
  refine vx_aload_n (n := 0) (q := 251) (by decide +kernel) rfl ?_
  refine vx_getI (idx := 342) (kd := 9) (s := 11) (fin := false) (q := 254) (by decide +kernel) (vx_Tk hT (by decide +kernel)) ?_
  obtain ⟨k1, H⟩ := H
  refine vx_iaload (z := 2) (q := 255) (by decide +kernel) (vx_Tk hT (by decide +kernel)) (vx_Tz hT (by decide +kernel)) (vx_ix k1 (by decide)) ?_
  refine vx_iadd (q := 256) (by decide +kernel) ?_
  obtain ⟨k2, H⟩ := H
  obtain ⟨k3, H⟩ := H
  refine vx_icmp_ge (off := 66) (q := 259) (t := 322) (by decide +kernel) k2 k3 (fun c4 => ?_) (fun c4 => ?_)
  · replace H := H.1 c4
    exact H
  · replace H := H.2 c4
    refine vx_aload_n (n := 0) (q := 260) (by decide +kernel) rfl ?_
    refine vx_getR (b := 648) (idx := 77) (kd := 9) (s := 29) (fin := true) (q := 263) (by decide +kernel) (vx_Tk hT (by decide +kernel)) (vx_Tr hT (kd := 9) (by decide +kernel) (by decide +kernel) (by decide +kernel)) ?_
    refine vx_iload (n := 4) (q := 265) (by decide +kernel) rfl ?_
    refine vx_aload_n (n := 0) (q := 266) (by decide +kernel) rfl ?_
    refine vx_getR (b := 648) (idx := 77) (kd := 9) (s := 29) (fin := true) (q := 269) (by decide +kernel) (vx_Tk hT (by decide +kernel)) (vx_Tr hT (kd := 9) (by decide +kernel) (by decide +kernel) (by decide +kernel)) ?_
    refine vx_iload (n := 4) (q := 271) (by decide +kernel) rfl ?_
    refine vx_iconst (n := 1) (q := 272) (by decide +kernel) ?_
    refine vx_iadd (q := 273) (by decide +kernel) ?_
    obtain ⟨k5, H⟩ := H
    refine vx_iaload (z := 800) (q := 274) (by decide +kernel) (vx_Tk hT (by decide +kernel)) (vx_Tz hT (by decide +kernel)) (vx_ix k5 (by decide)) ?_
    obtain ⟨k6, H⟩ := H
    refine vx_iastore (z := 800) (q := 275) (by decide +kernel) (vx_Tk hT (by decide +kernel)) (vx_Tz hT (by decide +kernel)) (vx_ix k6 (by decide)) (fun h7 e7 => ?_)
    have hT7 := vx_TJ hT e7
    replace H := H h7 e7 hT7
    refine vx_iconst (n := 0) (q := 276) (by decide +kernel) ?_
    refine vx_istore (n := 5) (q := 278) (lv' := [some (.ref 625), some (.int (vx_i v1)), some (.int (vx_i v2)), some (.int (vx_i v3)), some (.int (vx_i v4)), some (.int (vx_i 0))]) (by decide +kernel) rfl ?_
    exact H
theorem vg_63_278 {d : Nat} {h : ve_H} {P : Int → ve_H → Prop} {v1 : Int} {v2 : Int} {v3 : Int} {v4 : Int} {v5 : Int} (hT : vx_T 625 672 h) (H : (vx_rI v5) ∧ ((4 ≤ v5 → vx_W (d + 1) 63 236 [some (.ref 625), some (.int (vx_i v1)), some (.int (vx_i v2)), some (.int (vx_i v3)), some (.int (vx_i (v4 + 1))), some (.int (vx_i v5))] [] h (vx_RI P)) ∧ (v5 < 4 → (0 ≤ (((4 * v4) + 4) + v5) ∧ (((4 * v4) + 4) + v5) < 3200) ∧ (0 ≤ ((4 * v4) + v5) ∧ ((4 * v4) + v5) < 3200) ∧ (∀ h5, h5 = vx_sK h 649 ((4 * v4) + v5).toNat (vx_K h 649 (((4 * v4) + 4) + v5).toNat) → vx_T 625 672 h5 → vx_W (d + 1) 63 278 [some (.ref 625), some (.int (vx_i v1)), some (.int (vx_i v2)), some (.int (vx_i v3)), some (.int (vx_i v4)), some (.int (vx_i (v5 + 1)))] [] h5 (vx_RI P))))) : vx_W (d + 1) 63 278 [some (.ref 625), some (.int (vx_i v1)), some (.int (vx_i v2)), some (.int (vx_i v3)), some (.int (vx_i v4)), some (.int (vx_i v5))] [] h (vx_RI P) := by
  refine vx_iload (n := 5) (q := 280) (by decide +kernel) rfl ?_
  refine vx_iconst (n := 4) (q := 281) (by decide +kernel) ?_
  obtain ⟨k1, H⟩ := H
  refine vx_icmp_ge (off := 35) (q := 284) (t := 316) (by decide +kernel) k1 (by decide) (fun c2 => ?_) (fun c2 => ?_)
  · replace H := H.1 c2
    refine vx_iinc (n := 4) (m := 1) (x := v4) (q := 319) (lv' := [some (.ref 625), some (.int (vx_i v1)), some (.int (vx_i v2)), some (.int (vx_i v3)), some (.int (vx_i (v4 + 1))), some (.int (vx_i v5))]) (by decide +kernel) rfl rfl ?_
    refine vx_goto (off := (-83)) (q := 322) (t := 236) (by decide +kernel) ?_
    exact H
  · replace H := H.2 c2
    refine vx_aload_n (n := 0) (q := 285) (by decide +kernel) rfl ?_
    refine vx_getR (b := 649) (idx := 80) (kd := 9) (s := 30) (fin := true) (q := 288) (by decide +kernel) (vx_Tk hT (by decide +kernel)) (vx_Tr hT (kd := 9) (by decide +kernel) (by decide +kernel) (by decide +kernel)) ?_
    refine vx_iconst (n := 4) (q := 289) (by decide +kernel) ?_
    refine vx_iload (n := 4) (q := 291) (by decide +kernel) rfl ?_
    refine vx_imul (q := 292) (by decide +kernel) ?_
    refine vx_iload (n := 5) (q := 294) (by decide +kernel) rfl ?_
    refine vx_iadd (q := 295) (by decide +kernel) ?_
    refine vx_aload_n (n := 0) (q := 296) (by decide +kernel) rfl ?_
    refine vx_getR (b := 649) (idx := 80) (kd := 9) (s := 30) (fin := true) (q := 299) (by decide +kernel) (vx_Tk hT (by decide +kernel)) (vx_Tr hT (kd := 9) (by decide +kernel) (by decide +kernel) (by decide +kernel)) ?_
    refine vx_iconst (n := 4) (q := 300) (by decide +kernel) ?_
    refine vx_iload (n := 4) (q := 302) (by decide +kernel) rfl ?_
    refine vx_imul (q := 303) (by decide +kernel) ?_
    refine vx_iconst (n := 4) (q := 304) (by decide +kernel) ?_
    refine vx_iadd (q := 305) (by decide +kernel) ?_
    refine vx_iload (n := 5) (q := 307) (by decide +kernel) rfl ?_
    refine vx_iadd (q := 308) (by decide +kernel) ?_
    obtain ⟨k3, H⟩ := H
    refine vx_laload (z := 3200) (q := 309) (by decide +kernel) (vx_Tk hT (by decide +kernel)) (vx_Tz hT (by decide +kernel)) (vx_ix k3 (by decide)) ?_
    obtain ⟨k4, H⟩ := H
    refine vx_lastore (z := 3200) (q := 310) (by decide +kernel) (vx_Tk hT (by decide +kernel)) (vx_Tz hT (by decide +kernel)) (vx_ix k4 (by decide)) (fun h5 e5 => ?_)
    have hT5 := vx_TK hT e5
    replace H := H h5 e5 hT5
    refine vx_iinc (n := 5) (m := 1) (x := v5) (q := 313) (lv' := [some (.ref 625), some (.int (vx_i v1)), some (.int (vx_i v2)), some (.int (vx_i v3)), some (.int (vx_i v4)), some (.int (vx_i (v5 + 1)))]) (by decide +kernel) rfl rfl ?_
    refine vx_goto (off := (-35)) (q := 316) (t := 278) (by decide +kernel) ?_
    exact H
theorem vg_63_322 {d : Nat} {h : ve_H} {P : Int → ve_H → Prop} {v1 : Int} {v2 : Int} {v3 : Int} {v4 : Option Value} {v5 : Option Value} (hT : vx_T 625 672 h) (H : (∀ h1, h1 = vx_sJ h 625 31 0 → vx_T 625 672 h1 → (∀ h2, h2 = vx_sJ h1 625 32 0 → vx_T 625 672 h2 → P 1 h2))) : vx_W (d + 1) 63 322 [some (.ref 625), some (.int (vx_i v1)), some (.int (vx_i v2)), some (.int (vx_i v3)), v4, v5] [] h (vx_RI P) := by
  refine vx_aload_n (n := 0) (q := 323) (by decide +kernel) rfl ?_
  refine vx_iconst (n := 0) (q := 324) (by decide +kernel) ?_
  refine vx_putI (idx := 83) (kd := 9) (s := 31) (fin := false) (q := 327) (by decide +kernel) (vx_Tk hT (by decide +kernel)) (fun h1 e1 => ?_)
  have hT1 := vx_TJ hT e1
  replace H := H h1 e1 hT1
  refine vx_aload_n (n := 0) (q := 328) (by decide +kernel) rfl ?_
  refine vx_iconst (n := 0) (q := 329) (by decide +kernel) ?_
  refine vx_putI (idx := 357) (kd := 9) (s := 32) (fin := false) (q := 332) (by decide +kernel) (vx_Tk hT1 (by decide +kernel)) (fun h2 e2 => ?_)
  have hT2 := vx_TJ hT1 e2
  replace H := H h2 e2 hT2
  refine vx_iconst (n := 1) (q := 333) (by decide +kernel) ?_
  refine vx_retZ (q := 334) (by decide +kernel) (Or.inr rfl) ?_
  exact H
-- RuleHouseModel.fault(I)I
theorem vg_64 {d : Nat} {h : ve_H} {P : Int → ve_H → Prop} {x1 : Int} (hT : vx_T 625 672 h) (H : (∀ h1, h1 = vx_sJ h 625 0 0 → vx_T 625 672 h1 → (vx_rI x1) ∧ ((x1 ≠ 0 → ((x1 ≠ 1 → P ((-1)) h1) ∧ (x1 = 1 → P (vx_J h1 625 4) h1))) ∧ (x1 = 0 → P (vx_J h1 625 3) h1)))) : vx_CI d 64 [.ref 625, .int (vx_i x1)] h P := by
  refine vx_enter (ml := 2) (by decide +kernel) ?_
  show vx_W _ _ 0 [some (.ref 625), some (.int (vx_i x1))] [] h _
  refine vx_aload_n (n := 0) (q := 1) (by decide +kernel) rfl ?_
  refine vx_iconst (n := 0) (q := 2) (by decide +kernel) ?_
  refine vx_putI (idx := 154) (kd := 9) (s := 0) (fin := false) (q := 5) (by decide +kernel) (vx_Tk hT (by decide +kernel)) (fun h1 e1 => ?_)
  have hT1 := vx_TJ hT e1
  replace H := H h1 e1 hT1
  refine vx_iload_n (n := 1) (q := 6) (by decide +kernel) rfl ?_
  obtain ⟨k2, H⟩ := H
  refine vx_if0_ne (off := 10) (q := 9) (t := 16) (by decide +kernel) k2 (fun c3 => ?_) (fun c3 => ?_)
  · replace H := H.1 c3
    refine vx_iload_n (n := 1) (q := 17) (by decide +kernel) rfl ?_
    refine vx_iconst (n := 1) (q := 18) (by decide +kernel) ?_
    refine vx_icmp_ne (off := 10) (q := 21) (t := 28) (by decide +kernel) k2 (by decide) (fun c4 => ?_) (fun c4 => ?_)
    · replace H := H.1 c4
      refine vx_iconst (n := (-1)) (q := 29) (by decide +kernel) ?_
      refine vx_retI (q := 30) (by decide +kernel) (by decide) ?_
      exact H
    · replace H := H.2 c4
      refine vx_aload_n (n := 0) (q := 22) (by decide +kernel) rfl ?_
      refine vx_getI (idx := 204) (kd := 9) (s := 4) (fin := false) (q := 25) (by decide +kernel) (vx_Tk hT1 (by decide +kernel)) ?_
      refine vx_goto (off := 4) (q := 28) (t := 29) (by decide +kernel) ?_
      refine vx_retI (q := 30) (by decide +kernel) (vx_rI_J h1 625 4) ?_
      exact H
  · replace H := H.2 c3
    refine vx_aload_n (n := 0) (q := 10) (by decide +kernel) rfl ?_
    refine vx_getI (idx := 201) (kd := 9) (s := 3) (fin := false) (q := 13) (by decide +kernel) (vx_Tk hT1 (by decide +kernel)) ?_
    refine vx_goto (off := 16) (q := 16) (t := 29) (by decide +kernel) ?_
    refine vx_retI (q := 30) (by decide +kernel) (vx_rI_J h1 625 3) ?_
    exact H
-- RuleHouseModel.strata()I
theorem vg_89 {d : Nat} {h : ve_H} {P : Int → ve_H → Prop}  (hT : vx_T 625 672 h) (H : vx_W d 89 10 [some (.ref 625), some (.int (vx_i ((-1)))), some (.int (vx_i (16 * (vx_J h 625 11))))] [] h (vx_RI P)) : vx_CI d 89 [.ref 625] h P := by
  refine vx_enter (ml := 3) (by decide +kernel) ?_
  show vx_W _ _ 0 [some (.ref 625), none, none] [] h _
  refine vx_iconst (n := (-1)) (q := 1) (by decide +kernel) ?_
  refine vx_istore_n (n := 1) (q := 2) (lv' := [some (.ref 625), some (.int (vx_i ((-1)))), none]) (by decide +kernel) rfl ?_
  refine vx_bipush (n := 16) (q := 4) (by decide +kernel) ?_
  refine vx_aload_n (n := 0) (q := 5) (by decide +kernel) rfl ?_
  refine vx_getI (idx := 342) (kd := 9) (s := 11) (fin := false) (q := 8) (by decide +kernel) (vx_Tk hT (by decide +kernel)) ?_
  refine vx_imul (q := 9) (by decide +kernel) ?_
  refine vx_istore_n (n := 2) (q := 10) (lv' := [some (.ref 625), some (.int (vx_i ((-1)))), some (.int (vx_i (16 * (vx_J h 625 11))))]) (by decide +kernel) rfl ?_
  exact H
theorem vg_89_10 {d : Nat} {h : ve_H} {P : Int → ve_H → Prop} {v1 : Int} {v2 : Int} (hT : vx_T 625 672 h) (H : (0 ≤ (vx_J h 625 11) ∧ (vx_J h 625 11) < 2) ∧ (vx_rI v2) ∧ (vx_rI ((16 * (vx_J h 625 11)) + (vx_J h 631 (vx_J h 625 11).toNat))) ∧ ((((16 * (vx_J h 625 11)) + (vx_J h 631 (vx_J h 625 11).toNat)) ≤ v2 → (vx_rI (v1 + 1)) ∧ P (v1 + 1) h) ∧ (v2 < ((16 * (vx_J h 625 11)) + (vx_J h 631 (vx_J h 625 11).toNat)) → (0 ≤ v2 ∧ v2 < 32) ∧ (vx_rI v1) ∧ (((vx_J h 634 v2.toNat) ≤ v1 → vx_W d 89 10 [some (.ref 625), some (.int (vx_i v1)), some (.int (vx_i (v2 + 1)))] [] h (vx_RI P)) ∧ (v1 < (vx_J h 634 v2.toNat) → (0 ≤ v2 ∧ v2 < 32) ∧ vx_W d 89 10 [some (.ref 625), some (.int (vx_i (vx_J h 634 v2.toNat))), some (.int (vx_i (v2 + 1)))] [] h (vx_RI P)))))) : vx_W d 89 10 [some (.ref 625), some (.int (vx_i v1)), some (.int (vx_i v2))] [] h (vx_RI P) := by
  refine vx_iload_n (n := 2) (q := 11) (by decide +kernel) rfl ?_
  refine vx_bipush (n := 16) (q := 13) (by decide +kernel) ?_
  refine vx_aload_n (n := 0) (q := 14) (by decide +kernel) rfl ?_
  refine vx_getI (idx := 342) (kd := 9) (s := 11) (fin := false) (q := 17) (by decide +kernel) (vx_Tk hT (by decide +kernel)) ?_
  refine vx_imul (q := 18) (by decide +kernel) ?_
  refine vx_aload_n (n := 0) (q := 19) (by decide +kernel) rfl ?_
  refine vx_getR (b := 631) (idx := 26) (kd := 9) (s := 12) (fin := true) (q := 22) (by decide +kernel) (vx_Tk hT (by decide +kernel)) (vx_Tr hT (kd := 9) (by decide +kernel) (by decide +kernel) (by decide +kernel)) ?_
  refine vx_aload_n (n := 0) (q := 23) (by decide +kernel) rfl ?_
  refine vx_getI (idx := 342) (kd := 9) (s := 11) (fin := false) (q := 26) (by decide +kernel) (vx_Tk hT (by decide +kernel)) ?_
  obtain ⟨k1, H⟩ := H
  refine vx_iaload (z := 2) (q := 27) (by decide +kernel) (vx_Tk hT (by decide +kernel)) (vx_Tz hT (by decide +kernel)) (vx_ix k1 (by decide)) ?_
  refine vx_iadd (q := 28) (by decide +kernel) ?_
  obtain ⟨k2, H⟩ := H
  obtain ⟨k3, H⟩ := H
  refine vx_icmp_ge (off := 30) (q := 31) (t := 58) (by decide +kernel) k2 k3 (fun c4 => ?_) (fun c4 => ?_)
  · replace H := H.1 c4
    refine vx_iload_n (n := 1) (q := 59) (by decide +kernel) rfl ?_
    refine vx_iconst (n := 1) (q := 60) (by decide +kernel) ?_
    refine vx_iadd (q := 61) (by decide +kernel) ?_
    obtain ⟨k5, H⟩ := H
    refine vx_retI (q := 62) (by decide +kernel) k5 ?_
    exact H
  · replace H := H.2 c4
    refine vx_aload_n (n := 0) (q := 32) (by decide +kernel) rfl ?_
    refine vx_getR (b := 634) (idx := 35) (kd := 9) (s := 15) (fin := true) (q := 35) (by decide +kernel) (vx_Tk hT (by decide +kernel)) (vx_Tr hT (kd := 9) (by decide +kernel) (by decide +kernel) (by decide +kernel)) ?_
    refine vx_iload_n (n := 2) (q := 36) (by decide +kernel) rfl ?_
    obtain ⟨k6, H⟩ := H
    refine vx_iaload (z := 32) (q := 37) (by decide +kernel) (vx_Tk hT (by decide +kernel)) (vx_Tz hT (by decide +kernel)) (vx_ix k6 (by decide)) ?_
    refine vx_iload_n (n := 1) (q := 38) (by decide +kernel) rfl ?_
    obtain ⟨k7, H⟩ := H
    refine vx_icmp_le (off := 12) (q := 41) (t := 50) (by decide +kernel) (vx_rI_J h 634 v2.toNat) k7 (fun c8 => ?_) (fun c8 => ?_)
    · replace H := H.1 c8
      refine vx_iload_n (n := 1) (q := 51) (by decide +kernel) rfl ?_
      refine vx_istore_n (n := 1) (q := 52) (lv' := [some (.ref 625), some (.int (vx_i v1)), some (.int (vx_i v2))]) (by decide +kernel) rfl ?_
      refine vx_iinc (n := 2) (m := 1) (x := v2) (q := 55) (lv' := [some (.ref 625), some (.int (vx_i v1)), some (.int (vx_i (v2 + 1)))]) (by decide +kernel) rfl rfl ?_
      refine vx_goto (off := (-45)) (q := 58) (t := 10) (by decide +kernel) ?_
      exact H
    · replace H := H.2 c8
      refine vx_aload_n (n := 0) (q := 42) (by decide +kernel) rfl ?_
      refine vx_getR (b := 634) (idx := 35) (kd := 9) (s := 15) (fin := true) (q := 45) (by decide +kernel) (vx_Tk hT (by decide +kernel)) (vx_Tr hT (kd := 9) (by decide +kernel) (by decide +kernel) (by decide +kernel)) ?_
      refine vx_iload_n (n := 2) (q := 46) (by decide +kernel) rfl ?_
      obtain ⟨k9, H⟩ := H
      refine vx_iaload (z := 32) (q := 47) (by decide +kernel) (vx_Tk hT (by decide +kernel)) (vx_Tz hT (by decide +kernel)) (vx_ix k9 (by decide)) ?_
      refine vx_goto (off := 4) (q := 50) (t := 51) (by decide +kernel) ?_
      refine vx_istore_n (n := 1) (q := 52) (lv' := [some (.ref 625), some (.int (vx_i (vx_J h 634 v2.toNat))), some (.int (vx_i v2))]) (by decide +kernel) rfl ?_
      refine vx_iinc (n := 2) (m := 1) (x := v2) (q := 55) (lv' := [some (.ref 625), some (.int (vx_i (vx_J h 634 v2.toNat))), some (.int (vx_i (v2 + 1)))]) (by decide +kernel) rfl rfl ?_
      refine vx_goto (off := (-45)) (q := 58) (t := 10) (by decide +kernel) ?_
      exact H
-- RuleHouseModel.solve()I
theorem vg_91 {d : Nat} {h : ve_H} {P : Int → ve_H → Prop}  (hT : vx_T 625 672 h) (H : (((vx_J h 625 31) = 2 → (∀ h2, h2 = vx_sJ h 625 0 1 → vx_T 625 672 h2 → P 0 h2)) ∧ ((vx_J h 625 31) ≠ 2 → (((vx_J h 625 31) ≠ 0 → (∀ h4, h4 = vx_sJ h 625 0 0 → vx_T 625 672 h4 → (((vx_J h4 625 31) ≠ 1 → (∀ h6, h6 = vx_sJ h4 625 36 ((vx_J h4 625 36) + 1) → vx_T 625 672 h6 → (∀ h7, h7 = vx_sJ h6 625 32 0 → vx_T 625 672 h7 → (∀ h8, h8 = vx_sJ h7 625 68 0 → vx_T 625 672 h8 → vx_CI d 89 [.ref 625] h8 (fun r9 h9 => vx_T 625 672 h9 → vx_W (d + 1) 91 82 [some (.ref 625), some (.int (vx_i r9)), some (.int (vx_i 0))] [] h9 (vx_RI P)))))) ∧ ((vx_J h4 625 31) = 1 → P (vx_J h4 625 32) h4)))) ∧ ((vx_J h 625 31) = 0 → (((vx_J h 625 36) ≠ 40 → (∀ h11, h11 = vx_sJ h 625 0 0 → vx_T 625 672 h11 → (((vx_J h11 625 31) ≠ 1 → (∀ h13, h13 = vx_sJ h11 625 36 ((vx_J h11 625 36) + 1) → vx_T 625 672 h13 → (∀ h14, h14 = vx_sJ h13 625 32 0 → vx_T 625 672 h14 → (∀ h15, h15 = vx_sJ h14 625 68 0 → vx_T 625 672 h15 → vx_CI d 89 [.ref 625] h15 (fun r16 h16 => vx_T 625 672 h16 → vx_W (d + 1) 91 82 [some (.ref 625), some (.int (vx_i r16)), some (.int (vx_i 0))] [] h16 (vx_RI P)))))) ∧ ((vx_J h11 625 31) = 1 → P (vx_J h11 625 32) h11)))) ∧ ((vx_J h 625 36) = 40 → (∀ h17, h17 = vx_sJ h 625 0 1 → vx_T 625 672 h17 → P 0 h17)))))))) : vx_CI (d + 1) 91 [.ref 625] h P := by
  refine vx_enter (ml := 3) (by decide +kernel) ?_
  show vx_W _ _ 0 [some (.ref 625), none, none] [] h _
  refine vx_aload_n (n := 0) (q := 1) (by decide +kernel) rfl ?_
  refine vx_aload_n (n := 0) (q := 2) (by decide +kernel) rfl ?_
  refine vx_getI (idx := 83) (kd := 9) (s := 31) (fin := false) (q := 5) (by decide +kernel) (vx_Tk hT (by decide +kernel)) ?_
  refine vx_iconst (n := 2) (q := 6) (by decide +kernel) ?_
  refine vx_icmp_eq (off := 19) (q := 9) (t := 25) (by decide +kernel) (vx_rI_J h 625 31) (by decide) (fun c1 => ?_) (fun c1 => ?_)
  · replace H := H.1 c1
    refine vx_iconst (n := 1) (q := 26) (by decide +kernel) ?_
    refine vx_goto (off := 4) (q := 29) (t := 30) (by decide +kernel) ?_
    refine vx_putI (idx := 154) (kd := 9) (s := 0) (fin := false) (q := 33) (by decide +kernel) (vx_Tk hT (by decide +kernel)) (fun h2 e2 => ?_)
    have hT2 := vx_TJ hT e2
    replace H := H h2 e2 hT2
    refine vx_aload_n (n := 0) (q := 34) (by decide +kernel) rfl ?_
    refine vx_getI (idx := 154) (kd := 9) (s := 0) (fin := false) (q := 37) (by decide +kernel) (vx_Tk hT2 (by decide +kernel)) ?_
    rw [(vx_Jsm e2 (by decide))]
    refine vx_if0_le (off := 5) (q := 40) (t := 42) (by decide +kernel) (by decide) (fun c => absurd c (by decide)) (fun _ => ?_)
    refine vx_iconst (n := 0) (q := 41) (by decide +kernel) ?_
    refine vx_retI (q := 42) (by decide +kernel) (by decide) ?_
    exact H
  · replace H := H.2 c1
    refine vx_aload_n (n := 0) (q := 10) (by decide +kernel) rfl ?_
    refine vx_getI (idx := 83) (kd := 9) (s := 31) (fin := false) (q := 13) (by decide +kernel) (vx_Tk hT (by decide +kernel)) ?_
    refine vx_if0_ne (off := 16) (q := 16) (t := 29) (by decide +kernel) (vx_rI_J h 625 31) (fun c3 => ?_) (fun c3 => ?_)
    · replace H := H.1 c3
      refine vx_iconst (n := 0) (q := 30) (by decide +kernel) ?_
      refine vx_putI (idx := 154) (kd := 9) (s := 0) (fin := false) (q := 33) (by decide +kernel) (vx_Tk hT (by decide +kernel)) (fun h4 e4 => ?_)
      have hT4 := vx_TJ hT e4
      replace H := H h4 e4 hT4
      refine vx_aload_n (n := 0) (q := 34) (by decide +kernel) rfl ?_
      refine vx_getI (idx := 154) (kd := 9) (s := 0) (fin := false) (q := 37) (by decide +kernel) (vx_Tk hT4 (by decide +kernel)) ?_
      rw [(vx_Jsm e4 (by decide))]
      refine vx_if0_le (off := 5) (q := 40) (t := 42) (by decide +kernel) (by decide) (fun _ => ?_) (fun c => absurd c (by decide))
      refine vx_aload_n (n := 0) (q := 43) (by decide +kernel) rfl ?_
      refine vx_getI (idx := 83) (kd := 9) (s := 31) (fin := false) (q := 46) (by decide +kernel) (vx_Tk hT4 (by decide +kernel)) ?_
      refine vx_iconst (n := 1) (q := 47) (by decide +kernel) ?_
      refine vx_icmp_ne (off := 8) (q := 50) (t := 55) (by decide +kernel) (vx_rI_J h4 625 31) (by decide) (fun c5 => ?_) (fun c5 => ?_)
      · replace H := H.1 c5
        refine vx_aload_n (n := 0) (q := 56) (by decide +kernel) rfl ?_
        refine vx_dupR (q := 57) (by decide +kernel) ?_
        refine vx_getI (idx := 465) (kd := 9) (s := 36) (fin := false) (q := 60) (by decide +kernel) (vx_Tk hT4 (by decide +kernel)) ?_
        refine vx_iconst (n := 1) (q := 61) (by decide +kernel) ?_
        refine vx_iadd (q := 62) (by decide +kernel) ?_
        refine vx_putI (idx := 465) (kd := 9) (s := 36) (fin := false) (q := 65) (by decide +kernel) (vx_Tk hT4 (by decide +kernel)) (fun h6 e6 => ?_)
        have hT6 := vx_TJ hT4 e6
        replace H := H h6 e6 hT6
        refine vx_aload_n (n := 0) (q := 66) (by decide +kernel) rfl ?_
        refine vx_iconst (n := 0) (q := 67) (by decide +kernel) ?_
        refine vx_putI (idx := 357) (kd := 9) (s := 32) (fin := false) (q := 70) (by decide +kernel) (vx_Tk hT6 (by decide +kernel)) (fun h7 e7 => ?_)
        have hT7 := vx_TJ hT6 e7
        replace H := H h7 e7 hT7
        refine vx_aload_n (n := 0) (q := 71) (by decide +kernel) rfl ?_
        refine vx_iconst (n := 0) (q := 72) (by decide +kernel) ?_
        refine vx_putZ (idx := 422) (kd := 9) (s := 68) (fin := false) (q := 75) (by decide +kernel) (vx_Tk hT7 (by decide +kernel)) (Or.inl rfl) (fun h8 e8 => ?_)
        have hT8 := vx_TJ hT7 e8
        replace H := H h8 e8 hT8
        refine vx_aload_n (n := 0) (q := 76) (by decide +kernel) rfl ?_
        refine vx_callI (i := .invokevirtual 468) (how := 3) (cm := 89) (np := 1) (q := 79) (args := [.ref 625]) (rest := []) (by decide +kernel) rfl rfl rfl (vx_w2 (w := 1) (ml := 3) rfl (by decide +kernel)) (vx_rcv (kd := 9) (vx_Tk hT8 (by decide +kernel)) (by decide +kernel)) H (fun r9 h9 hr9 hs9 H => ?_)
        have hT9 := vx_Tsh hT8 hs9
        replace H := H hT9
        refine vx_istore_n (n := 1) (q := 80) (lv' := [some (.ref 625), some (.int (vx_i r9)), none]) (by decide +kernel) rfl ?_
        refine vx_iconst (n := 0) (q := 81) (by decide +kernel) ?_
        refine vx_istore_n (n := 2) (q := 82) (lv' := [some (.ref 625), some (.int (vx_i r9)), some (.int (vx_i 0))]) (by decide +kernel) rfl ?_
        exact H
      · replace H := H.2 c5
        refine vx_aload_n (n := 0) (q := 51) (by decide +kernel) rfl ?_
        refine vx_getI (idx := 357) (kd := 9) (s := 32) (fin := false) (q := 54) (by decide +kernel) (vx_Tk hT4 (by decide +kernel)) ?_
        refine vx_retI (q := 55) (by decide +kernel) (vx_rI_J h4 625 32) ?_
        exact H
    · replace H := H.2 c3
      refine vx_aload_n (n := 0) (q := 17) (by decide +kernel) rfl ?_
      refine vx_getI (idx := 465) (kd := 9) (s := 36) (fin := false) (q := 20) (by decide +kernel) (vx_Tk hT (by decide +kernel)) ?_
      refine vx_bipush (n := 40) (q := 22) (by decide +kernel) ?_
      refine vx_icmp_ne (off := 7) (q := 25) (t := 29) (by decide +kernel) (vx_rI_J h 625 36) (by decide) (fun c10 => ?_) (fun c10 => ?_)
      · replace H := H.1 c10
        refine vx_iconst (n := 0) (q := 30) (by decide +kernel) ?_
        refine vx_putI (idx := 154) (kd := 9) (s := 0) (fin := false) (q := 33) (by decide +kernel) (vx_Tk hT (by decide +kernel)) (fun h11 e11 => ?_)
        have hT11 := vx_TJ hT e11
        replace H := H h11 e11 hT11
        refine vx_aload_n (n := 0) (q := 34) (by decide +kernel) rfl ?_
        refine vx_getI (idx := 154) (kd := 9) (s := 0) (fin := false) (q := 37) (by decide +kernel) (vx_Tk hT11 (by decide +kernel)) ?_
        rw [(vx_Jsm e11 (by decide))]
        refine vx_if0_le (off := 5) (q := 40) (t := 42) (by decide +kernel) (by decide) (fun _ => ?_) (fun c => absurd c (by decide))
        refine vx_aload_n (n := 0) (q := 43) (by decide +kernel) rfl ?_
        refine vx_getI (idx := 83) (kd := 9) (s := 31) (fin := false) (q := 46) (by decide +kernel) (vx_Tk hT11 (by decide +kernel)) ?_
        refine vx_iconst (n := 1) (q := 47) (by decide +kernel) ?_
        refine vx_icmp_ne (off := 8) (q := 50) (t := 55) (by decide +kernel) (vx_rI_J h11 625 31) (by decide) (fun c12 => ?_) (fun c12 => ?_)
        · replace H := H.1 c12
          refine vx_aload_n (n := 0) (q := 56) (by decide +kernel) rfl ?_
          refine vx_dupR (q := 57) (by decide +kernel) ?_
          refine vx_getI (idx := 465) (kd := 9) (s := 36) (fin := false) (q := 60) (by decide +kernel) (vx_Tk hT11 (by decide +kernel)) ?_
          refine vx_iconst (n := 1) (q := 61) (by decide +kernel) ?_
          refine vx_iadd (q := 62) (by decide +kernel) ?_
          refine vx_putI (idx := 465) (kd := 9) (s := 36) (fin := false) (q := 65) (by decide +kernel) (vx_Tk hT11 (by decide +kernel)) (fun h13 e13 => ?_)
          have hT13 := vx_TJ hT11 e13
          replace H := H h13 e13 hT13
          refine vx_aload_n (n := 0) (q := 66) (by decide +kernel) rfl ?_
          refine vx_iconst (n := 0) (q := 67) (by decide +kernel) ?_
          refine vx_putI (idx := 357) (kd := 9) (s := 32) (fin := false) (q := 70) (by decide +kernel) (vx_Tk hT13 (by decide +kernel)) (fun h14 e14 => ?_)
          have hT14 := vx_TJ hT13 e14
          replace H := H h14 e14 hT14
          refine vx_aload_n (n := 0) (q := 71) (by decide +kernel) rfl ?_
          refine vx_iconst (n := 0) (q := 72) (by decide +kernel) ?_
          refine vx_putZ (idx := 422) (kd := 9) (s := 68) (fin := false) (q := 75) (by decide +kernel) (vx_Tk hT14 (by decide +kernel)) (Or.inl rfl) (fun h15 e15 => ?_)
          have hT15 := vx_TJ hT14 e15
          replace H := H h15 e15 hT15
          refine vx_aload_n (n := 0) (q := 76) (by decide +kernel) rfl ?_
          refine vx_callI (i := .invokevirtual 468) (how := 3) (cm := 89) (np := 1) (q := 79) (args := [.ref 625]) (rest := []) (by decide +kernel) rfl rfl rfl (vx_w2 (w := 1) (ml := 3) rfl (by decide +kernel)) (vx_rcv (kd := 9) (vx_Tk hT15 (by decide +kernel)) (by decide +kernel)) H (fun r16 h16 hr16 hs16 H => ?_)
          have hT16 := vx_Tsh hT15 hs16
          replace H := H hT16
          refine vx_istore_n (n := 1) (q := 80) (lv' := [some (.ref 625), some (.int (vx_i r16)), none]) (by decide +kernel) rfl ?_
          refine vx_iconst (n := 0) (q := 81) (by decide +kernel) ?_
          refine vx_istore_n (n := 2) (q := 82) (lv' := [some (.ref 625), some (.int (vx_i r16)), some (.int (vx_i 0))]) (by decide +kernel) rfl ?_
          exact H
        · replace H := H.2 c12
          refine vx_aload_n (n := 0) (q := 51) (by decide +kernel) rfl ?_
          refine vx_getI (idx := 357) (kd := 9) (s := 32) (fin := false) (q := 54) (by decide +kernel) (vx_Tk hT11 (by decide +kernel)) ?_
          refine vx_retI (q := 55) (by decide +kernel) (vx_rI_J h11 625 32) ?_
          exact H
      · replace H := H.2 c10
        refine vx_iconst (n := 1) (q := 26) (by decide +kernel) ?_
        refine vx_goto (off := 4) (q := 29) (t := 30) (by decide +kernel) ?_
        refine vx_putI (idx := 154) (kd := 9) (s := 0) (fin := false) (q := 33) (by decide +kernel) (vx_Tk hT (by decide +kernel)) (fun h17 e17 => ?_)
        have hT17 := vx_TJ hT e17
        replace H := H h17 e17 hT17
        refine vx_aload_n (n := 0) (q := 34) (by decide +kernel) rfl ?_
        refine vx_getI (idx := 154) (kd := 9) (s := 0) (fin := false) (q := 37) (by decide +kernel) (vx_Tk hT17 (by decide +kernel)) ?_
        rw [(vx_Jsm e17 (by decide))]
        refine vx_if0_le (off := 5) (q := 40) (t := 42) (by decide +kernel) (by decide) (fun c => absurd c (by decide)) (fun _ => ?_)
        refine vx_iconst (n := 0) (q := 41) (by decide +kernel) ?_
        refine vx_retI (q := 42) (by decide +kernel) (by decide) ?_
        exact H
theorem vg_91_82 {d : Nat} {h : ve_H} {P : Int → ve_H → Prop} {v1 : Int} {v2 : Int} (hT : vx_T 625 672 h) (H : (vx_rI v2) ∧ (vx_rI v1) ∧ ((v1 ≤ v2 → (((vx_J h 625 68) = 0 → (∀ h5, h5 = vx_sJ h 625 31 1 → vx_T 625 672 h5 → (((vx_J h5 625 68) = 0 → P (vx_J h5 625 32) h5) ∧ ((vx_J h5 625 68) ≠ 0 → (∀ h7, h7 = vx_sJ h5 625 32 0 → vx_T 625 672 h7 → vx_CI d 20 [.ref 625, .int (vx_i 1)] h7 (fun r8 h8 => vx_T 625 672 h8 → P r8 h8)))))) ∧ ((vx_J h 625 68) ≠ 0 → (∀ h9, h9 = vx_sJ h 625 31 2 → vx_T 625 672 h9 → (((vx_J h9 625 68) = 0 → P (vx_J h9 625 32) h9) ∧ ((vx_J h9 625 68) ≠ 0 → (∀ h11, h11 = vx_sJ h9 625 32 0 → vx_T 625 672 h11 → vx_CI d 20 [.ref 625, .int (vx_i 1)] h11 (fun r12 h12 => vx_T 625 672 h12 → P r12 h12)))))))) ∧ (v2 < v1 → (((vx_J h 625 68) ≠ 0 → (∀ h14, h14 = vx_sJ h 625 31 2 → vx_T 625 672 h14 → (((vx_J h14 625 68) = 0 → P (vx_J h14 625 32) h14) ∧ ((vx_J h14 625 68) ≠ 0 → (∀ h16, h16 = vx_sJ h14 625 32 0 → vx_T 625 672 h16 → vx_CI d 20 [.ref 625, .int (vx_i 1)] h16 (fun r17 h17 => vx_T 625 672 h17 → P r17 h17)))))) ∧ ((vx_J h 625 68) = 0 → vx_CV d 90 [.ref 625, .int (vx_i v2)] h (fun h18 => vx_T 625 672 h18 → vx_W (d + 1) 91 82 [some (.ref 625), some (.int (vx_i v1)), some (.int (vx_i (v2 + 1)))] [] h18 (vx_RI P))))))) : vx_W (d + 1) 91 82 [some (.ref 625), some (.int (vx_i v1)), some (.int (vx_i v2))] [] h (vx_RI P) := by
  refine vx_iload_n (n := 2) (q := 83) (by decide +kernel) rfl ?_
  refine vx_iload_n (n := 1) (q := 84) (by decide +kernel) rfl ?_
  obtain ⟨k1, H⟩ := H
  obtain ⟨k2, H⟩ := H
  refine vx_icmp_ge (off := 21) (q := 87) (t := 105) (by decide +kernel) k1 k2 (fun c3 => ?_) (fun c3 => ?_)
  · replace H := H.1 c3
    refine vx_aload_n (n := 0) (q := 106) (by decide +kernel) rfl ?_
    refine vx_aload_n (n := 0) (q := 107) (by decide +kernel) rfl ?_
    refine vx_getZ (idx := 422) (kd := 9) (s := 68) (fin := false) (q := 110) (by decide +kernel) (vx_Tk hT (by decide +kernel)) ?_
    refine vx_if0_eq (off := 7) (q := 113) (t := 117) (by decide +kernel) (vx_rI_J h 625 68) (fun c4 => ?_) (fun c4 => ?_)
    · replace H := H.1 c4
      refine vx_iconst (n := 1) (q := 118) (by decide +kernel) ?_
      refine vx_putI (idx := 83) (kd := 9) (s := 31) (fin := false) (q := 121) (by decide +kernel) (vx_Tk hT (by decide +kernel)) (fun h5 e5 => ?_)
      have hT5 := vx_TJ hT e5
      replace H := H h5 e5 hT5
      refine vx_aload_n (n := 0) (q := 122) (by decide +kernel) rfl ?_
      refine vx_getZ (idx := 422) (kd := 9) (s := 68) (fin := false) (q := 125) (by decide +kernel) (vx_Tk hT5 (by decide +kernel)) ?_
      refine vx_if0_eq (off := 14) (q := 128) (t := 139) (by decide +kernel) (vx_rI_J h5 625 68) (fun c6 => ?_) (fun c6 => ?_)
      · replace H := H.1 c6
        refine vx_aload_n (n := 0) (q := 140) (by decide +kernel) rfl ?_
        refine vx_getI (idx := 357) (kd := 9) (s := 32) (fin := false) (q := 143) (by decide +kernel) (vx_Tk hT5 (by decide +kernel)) ?_
        refine vx_retI (q := 144) (by decide +kernel) (vx_rI_J h5 625 32) ?_
        exact H
      · replace H := H.2 c6
        refine vx_aload_n (n := 0) (q := 129) (by decide +kernel) rfl ?_
        refine vx_iconst (n := 0) (q := 130) (by decide +kernel) ?_
        refine vx_putI (idx := 357) (kd := 9) (s := 32) (fin := false) (q := 133) (by decide +kernel) (vx_Tk hT5 (by decide +kernel)) (fun h7 e7 => ?_)
        have hT7 := vx_TJ hT5 e7
        replace H := H h7 e7 hT7
        refine vx_aload_n (n := 0) (q := 134) (by decide +kernel) rfl ?_
        refine vx_iconst (n := 1) (q := 135) (by decide +kernel) ?_
        refine vx_callI (i := .invokevirtual 351) (how := 3) (cm := 20) (np := 2) (q := 138) (args := [.ref 625, .int (vx_i 1)]) (rest := []) (by decide +kernel) rfl rfl rfl (vx_w2 (w := 2) (ml := 2) rfl (by decide +kernel)) (vx_rcv (kd := 9) (vx_Tk hT7 (by decide +kernel)) (by decide +kernel)) H (fun r8 h8 hr8 hs8 H => ?_)
        have hT8 := vx_Tsh hT7 hs8
        replace H := H hT8
        refine vx_retI (q := 139) (by decide +kernel) hr8 ?_
        exact H
    · replace H := H.2 c4
      refine vx_iconst (n := 2) (q := 114) (by decide +kernel) ?_
      refine vx_goto (off := 4) (q := 117) (t := 118) (by decide +kernel) ?_
      refine vx_putI (idx := 83) (kd := 9) (s := 31) (fin := false) (q := 121) (by decide +kernel) (vx_Tk hT (by decide +kernel)) (fun h9 e9 => ?_)
      have hT9 := vx_TJ hT e9
      replace H := H h9 e9 hT9
      refine vx_aload_n (n := 0) (q := 122) (by decide +kernel) rfl ?_
      refine vx_getZ (idx := 422) (kd := 9) (s := 68) (fin := false) (q := 125) (by decide +kernel) (vx_Tk hT9 (by decide +kernel)) ?_
      refine vx_if0_eq (off := 14) (q := 128) (t := 139) (by decide +kernel) (vx_rI_J h9 625 68) (fun c10 => ?_) (fun c10 => ?_)
      · replace H := H.1 c10
        refine vx_aload_n (n := 0) (q := 140) (by decide +kernel) rfl ?_
        refine vx_getI (idx := 357) (kd := 9) (s := 32) (fin := false) (q := 143) (by decide +kernel) (vx_Tk hT9 (by decide +kernel)) ?_
        refine vx_retI (q := 144) (by decide +kernel) (vx_rI_J h9 625 32) ?_
        exact H
      · replace H := H.2 c10
        refine vx_aload_n (n := 0) (q := 129) (by decide +kernel) rfl ?_
        refine vx_iconst (n := 0) (q := 130) (by decide +kernel) ?_
        refine vx_putI (idx := 357) (kd := 9) (s := 32) (fin := false) (q := 133) (by decide +kernel) (vx_Tk hT9 (by decide +kernel)) (fun h11 e11 => ?_)
        have hT11 := vx_TJ hT9 e11
        replace H := H h11 e11 hT11
        refine vx_aload_n (n := 0) (q := 134) (by decide +kernel) rfl ?_
        refine vx_iconst (n := 1) (q := 135) (by decide +kernel) ?_
        refine vx_callI (i := .invokevirtual 351) (how := 3) (cm := 20) (np := 2) (q := 138) (args := [.ref 625, .int (vx_i 1)]) (rest := []) (by decide +kernel) rfl rfl rfl (vx_w2 (w := 2) (ml := 2) rfl (by decide +kernel)) (vx_rcv (kd := 9) (vx_Tk hT11 (by decide +kernel)) (by decide +kernel)) H (fun r12 h12 hr12 hs12 H => ?_)
        have hT12 := vx_Tsh hT11 hs12
        replace H := H hT12
        refine vx_retI (q := 139) (by decide +kernel) hr12 ?_
        exact H
  · replace H := H.2 c3
    refine vx_aload_n (n := 0) (q := 88) (by decide +kernel) rfl ?_
    refine vx_getZ (idx := 422) (kd := 9) (s := 68) (fin := false) (q := 91) (by decide +kernel) (vx_Tk hT (by decide +kernel)) ?_
    refine vx_if0_ne (off := 14) (q := 94) (t := 105) (by decide +kernel) (vx_rI_J h 625 68) (fun c13 => ?_) (fun c13 => ?_)
    · replace H := H.1 c13
      refine vx_aload_n (n := 0) (q := 106) (by decide +kernel) rfl ?_
      refine vx_aload_n (n := 0) (q := 107) (by decide +kernel) rfl ?_
      refine vx_getZ (idx := 422) (kd := 9) (s := 68) (fin := false) (q := 110) (by decide +kernel) (vx_Tk hT (by decide +kernel)) ?_
      refine vx_if0_eq (off := 7) (q := 113) (t := 117) (by decide +kernel) (vx_rI_J h 625 68) (fun c => absurd c (by omega)) (fun _ => ?_)
      refine vx_iconst (n := 2) (q := 114) (by decide +kernel) ?_
      refine vx_goto (off := 4) (q := 117) (t := 118) (by decide +kernel) ?_
      refine vx_putI (idx := 83) (kd := 9) (s := 31) (fin := false) (q := 121) (by decide +kernel) (vx_Tk hT (by decide +kernel)) (fun h14 e14 => ?_)
      have hT14 := vx_TJ hT e14
      replace H := H h14 e14 hT14
      refine vx_aload_n (n := 0) (q := 122) (by decide +kernel) rfl ?_
      refine vx_getZ (idx := 422) (kd := 9) (s := 68) (fin := false) (q := 125) (by decide +kernel) (vx_Tk hT14 (by decide +kernel)) ?_
      refine vx_if0_eq (off := 14) (q := 128) (t := 139) (by decide +kernel) (vx_rI_J h14 625 68) (fun c15 => ?_) (fun c15 => ?_)
      · replace H := H.1 c15
        refine vx_aload_n (n := 0) (q := 140) (by decide +kernel) rfl ?_
        refine vx_getI (idx := 357) (kd := 9) (s := 32) (fin := false) (q := 143) (by decide +kernel) (vx_Tk hT14 (by decide +kernel)) ?_
        refine vx_retI (q := 144) (by decide +kernel) (vx_rI_J h14 625 32) ?_
        exact H
      · replace H := H.2 c15
        refine vx_aload_n (n := 0) (q := 129) (by decide +kernel) rfl ?_
        refine vx_iconst (n := 0) (q := 130) (by decide +kernel) ?_
        refine vx_putI (idx := 357) (kd := 9) (s := 32) (fin := false) (q := 133) (by decide +kernel) (vx_Tk hT14 (by decide +kernel)) (fun h16 e16 => ?_)
        have hT16 := vx_TJ hT14 e16
        replace H := H h16 e16 hT16
        refine vx_aload_n (n := 0) (q := 134) (by decide +kernel) rfl ?_
        refine vx_iconst (n := 1) (q := 135) (by decide +kernel) ?_
        refine vx_callI (i := .invokevirtual 351) (how := 3) (cm := 20) (np := 2) (q := 138) (args := [.ref 625, .int (vx_i 1)]) (rest := []) (by decide +kernel) rfl rfl rfl (vx_w2 (w := 2) (ml := 2) rfl (by decide +kernel)) (vx_rcv (kd := 9) (vx_Tk hT16 (by decide +kernel)) (by decide +kernel)) H (fun r17 h17 hr17 hs17 H => ?_)
        have hT17 := vx_Tsh hT16 hs17
        replace H := H hT17
        refine vx_retI (q := 139) (by decide +kernel) hr17 ?_
        exact H
    · replace H := H.2 c13
      refine vx_aload_n (n := 0) (q := 95) (by decide +kernel) rfl ?_
      refine vx_iload_n (n := 2) (q := 96) (by decide +kernel) rfl ?_
      refine vx_callV (i := .invokevirtual 471) (how := 3) (cm := 90) (np := 2) (q := 99) (args := [.ref 625, .int (vx_i v2)]) (rest := []) (by decide +kernel) rfl rfl rfl (vx_w2 (w := 2) (ml := 4) rfl (by decide +kernel)) (vx_rcv (kd := 9) (vx_Tk hT (by decide +kernel)) (by decide +kernel)) H (fun h18 hs18 H => ?_)
      have hT18 := vx_Tsh hT hs18
      replace H := H hT18
      refine vx_iinc (n := 2) (m := 1) (x := v2) (q := 102) (lv' := [some (.ref 625), some (.int (vx_i v1)), some (.int (vx_i (v2 + 1)))]) (by decide +kernel) rfl rfl ?_
      refine vx_goto (off := (-20)) (q := 105) (t := 82) (by decide +kernel) ?_
      exact H
-- RuleHouseModel.ask()I
theorem vg_94 {d : Nat} {h : ve_H} {P : Int → ve_H → Prop}  (hT : vx_T 625 672 h) (H : vx_CV d 61 [.ref 625] h (fun h1 => vx_T 625 672 h1 → (∀ h2, h2 = vx_sJ h1 625 48 (vx_J h1 625 11) → vx_T 625 672 h2 → (∀ h3, h3 = vx_sJ h2 625 49 0 → vx_T 625 672 h3 → vx_CV d 51 [.ref 625, .int (vx_i 60)] h3 (fun h4 => vx_T 625 672 h4 → vx_CI d 46 [.ref 625] h4 (fun r5 h5 => vx_T 625 672 h5 → ((r5 = 0 → (((vx_J h5 625 3) = 0 → (((vx_J h5 625 31) ≠ 1 → vx_CI d 20 [.ref 625, .int (vx_i 2)] h5 (fun r9 h9 => vx_T 625 672 h9 → P r9 h9)) ∧ ((vx_J h5 625 31) = 1 → (((vx_J h5 625 37) ≠ 500 → (∀ h11, h11 = vx_sJ h5 625 78 0 → vx_T 625 672 h11 → (∀ h12, h12 = vx_sJ h11 625 68 0 → vx_T 625 672 h12 → (∀ h13, h13 = vx_sJ h12 625 65 (vx_J h12 625 32) → vx_T 625 672 h13 → (∀ h14, h14 = vx_sJ h13 625 66 2 → vx_T 625 672 h14 → vx_CV d 79 [.ref 625, .int (vx_i 60)] h14 (fun h15 => vx_T 625 672 h15 → (((vx_J h15 625 68) = 0 → (∀ h17, h17 = vx_sJ h15 625 0 0 → vx_T 625 672 h17 → (∀ h18, h18 = vx_sJ h17 625 37 ((vx_J h17 625 37) + 1) → vx_T 625 672 h18 → (∀ h19, h19 = vx_sJ h18 625 38 (vx_J h18 625 78) → vx_T 625 672 h19 → (∀ h20, h20 = vx_sJ h19 625 39 (vx_J h19 642 60) → vx_T 625 672 h20 → vx_W (d + 1) 94 178 [some (.ref 625), some (.int (vx_i 0)), none, none] [] h20 (vx_RI P)))))) ∧ ((vx_J h15 625 68) ≠ 0 → vx_CI d 20 [.ref 625, .int (vx_i 2)] h15 (fun r21 h21 => vx_T 625 672 h21 → P r21 h21))))))))) ∧ ((vx_J h5 625 37) = 500 → vx_CI d 20 [.ref 625, .int (vx_i 2)] h5 (fun r22 h22 => vx_T 625 672 h22 → P r22 h22)))))) ∧ ((vx_J h5 625 3) ≠ 0 → vx_CI d 20 [.ref 625, .int (vx_i 1)] h5 (fun r23 h23 => vx_T 625 672 h23 → P r23 h23)))) ∧ (r5 ≠ 0 → vx_CI d 36 [.ref 625, .int (vx_i 63)] h5 (fun r24 h24 => vx_T 625 672 h24 → ((r24 = 0 → (((vx_J h24 625 3) = 0 → (((vx_J h24 625 31) ≠ 1 → vx_CI d 20 [.ref 625, .int (vx_i 2)] h24 (fun r28 h28 => vx_T 625 672 h28 → P r28 h28)) ∧ ((vx_J h24 625 31) = 1 → (((vx_J h24 625 37) ≠ 500 → (∀ h30, h30 = vx_sJ h24 625 78 0 → vx_T 625 672 h30 → (∀ h31, h31 = vx_sJ h30 625 68 0 → vx_T 625 672 h31 → (∀ h32, h32 = vx_sJ h31 625 65 (vx_J h31 625 32) → vx_T 625 672 h32 → (∀ h33, h33 = vx_sJ h32 625 66 2 → vx_T 625 672 h33 → vx_CV d 79 [.ref 625, .int (vx_i 60)] h33 (fun h34 => vx_T 625 672 h34 → (((vx_J h34 625 68) = 0 → (∀ h36, h36 = vx_sJ h34 625 0 0 → vx_T 625 672 h36 → (∀ h37, h37 = vx_sJ h36 625 37 ((vx_J h36 625 37) + 1) → vx_T 625 672 h37 → (∀ h38, h38 = vx_sJ h37 625 38 (vx_J h37 625 78) → vx_T 625 672 h38 → (∀ h39, h39 = vx_sJ h38 625 39 (vx_J h38 642 60) → vx_T 625 672 h39 → vx_W (d + 1) 94 178 [some (.ref 625), some (.int (vx_i 0)), none, none] [] h39 (vx_RI P)))))) ∧ ((vx_J h34 625 68) ≠ 0 → vx_CI d 20 [.ref 625, .int (vx_i 2)] h34 (fun r40 h40 => vx_T 625 672 h40 → P r40 h40))))))))) ∧ ((vx_J h24 625 37) = 500 → vx_CI d 20 [.ref 625, .int (vx_i 2)] h24 (fun r41 h41 => vx_T 625 672 h41 → P r41 h41)))))) ∧ ((vx_J h24 625 3) ≠ 0 → vx_CI d 20 [.ref 625, .int (vx_i 1)] h24 (fun r42 h42 => vx_T 625 672 h42 → P r42 h42)))) ∧ (r24 ≠ 0 → (0 ≤ (vx_J h24 625 10) ∧ (vx_J h24 625 10) < 602) ∧ (((vx_J h24 627 (vx_J h24 625 10).toNat) = 0 → vx_CV d 49 [.ref 625] h24 (fun h45 => vx_T 625 672 h45 → (((vx_J h45 625 3) = 0 → (((vx_J h45 625 31) ≠ 1 → vx_CI d 20 [.ref 625, .int (vx_i 2)] h45 (fun r48 h48 => vx_T 625 672 h48 → P r48 h48)) ∧ ((vx_J h45 625 31) = 1 → (((vx_J h45 625 37) ≠ 500 → (∀ h50, h50 = vx_sJ h45 625 78 0 → vx_T 625 672 h50 → (∀ h51, h51 = vx_sJ h50 625 68 0 → vx_T 625 672 h51 → (∀ h52, h52 = vx_sJ h51 625 65 (vx_J h51 625 32) → vx_T 625 672 h52 → (∀ h53, h53 = vx_sJ h52 625 66 2 → vx_T 625 672 h53 → vx_CV d 79 [.ref 625, .int (vx_i 60)] h53 (fun h54 => vx_T 625 672 h54 → (((vx_J h54 625 68) = 0 → (∀ h56, h56 = vx_sJ h54 625 0 0 → vx_T 625 672 h56 → (∀ h57, h57 = vx_sJ h56 625 37 ((vx_J h56 625 37) + 1) → vx_T 625 672 h57 → (∀ h58, h58 = vx_sJ h57 625 38 (vx_J h57 625 78) → vx_T 625 672 h58 → (∀ h59, h59 = vx_sJ h58 625 39 (vx_J h58 642 60) → vx_T 625 672 h59 → vx_W (d + 1) 94 178 [some (.ref 625), some (.int (vx_i 0)), none, none] [] h59 (vx_RI P)))))) ∧ ((vx_J h54 625 68) ≠ 0 → vx_CI d 20 [.ref 625, .int (vx_i 2)] h54 (fun r60 h60 => vx_T 625 672 h60 → P r60 h60))))))))) ∧ ((vx_J h45 625 37) = 500 → vx_CI d 20 [.ref 625, .int (vx_i 2)] h45 (fun r61 h61 => vx_T 625 672 h61 → P r61 h61)))))) ∧ ((vx_J h45 625 3) ≠ 0 → vx_CI d 20 [.ref 625, .int (vx_i 1)] h45 (fun r62 h62 => vx_T 625 672 h62 → P r62 h62))))) ∧ ((vx_J h24 627 (vx_J h24 625 10).toNat) ≠ 0 → vx_CI d 33 [.ref 625] h24 (fun r63 h63 => vx_T 625 672 h63 → (((vx_J h63 625 3) = 0 → (((vx_J h63 625 31) ≠ 1 → vx_CI d 20 [.ref 625, .int (vx_i 2)] h63 (fun r66 h66 => vx_T 625 672 h66 → P r66 h66)) ∧ ((vx_J h63 625 31) = 1 → (((vx_J h63 625 37) ≠ 500 → (∀ h68, h68 = vx_sJ h63 625 78 0 → vx_T 625 672 h68 → (∀ h69, h69 = vx_sJ h68 625 68 0 → vx_T 625 672 h69 → (∀ h70, h70 = vx_sJ h69 625 65 (vx_J h69 625 32) → vx_T 625 672 h70 → (∀ h71, h71 = vx_sJ h70 625 66 2 → vx_T 625 672 h71 → vx_CV d 79 [.ref 625, .int (vx_i 60)] h71 (fun h72 => vx_T 625 672 h72 → (((vx_J h72 625 68) = 0 → (∀ h74, h74 = vx_sJ h72 625 0 0 → vx_T 625 672 h74 → (∀ h75, h75 = vx_sJ h74 625 37 ((vx_J h74 625 37) + 1) → vx_T 625 672 h75 → (∀ h76, h76 = vx_sJ h75 625 38 (vx_J h75 625 78) → vx_T 625 672 h76 → (∀ h77, h77 = vx_sJ h76 625 39 (vx_J h76 642 60) → vx_T 625 672 h77 → vx_W (d + 1) 94 178 [some (.ref 625), some (.int (vx_i 0)), none, none] [] h77 (vx_RI P)))))) ∧ ((vx_J h72 625 68) ≠ 0 → vx_CI d 20 [.ref 625, .int (vx_i 2)] h72 (fun r78 h78 => vx_T 625 672 h78 → P r78 h78))))))))) ∧ ((vx_J h63 625 37) = 500 → vx_CI d 20 [.ref 625, .int (vx_i 2)] h63 (fun r79 h79 => vx_T 625 672 h79 → P r79 h79)))))) ∧ ((vx_J h63 625 3) ≠ 0 → vx_CI d 20 [.ref 625, .int (vx_i 1)] h63 (fun r80 h80 => vx_T 625 672 h80 → P r80 h80))))))))))))))))) : vx_CI (d + 1) 94 [.ref 625] h P := by
  refine vx_enter (ml := 4) (by decide +kernel) ?_
  show vx_W _ _ 0 [some (.ref 625), none, none, none] [] h _
  refine vx_aload_n (n := 0) (q := 1) (by decide +kernel) rfl ?_
  refine vx_callV (i := .invokevirtual 339) (how := 3) (cm := 61) (np := 1) (q := 4) (args := [.ref 625]) (rest := []) (by decide +kernel) rfl rfl rfl (vx_w2 (w := 1) (ml := 1) rfl (by decide +kernel)) (vx_rcv (kd := 9) (vx_Tk hT (by decide +kernel)) (by decide +kernel)) H (fun h1 hs1 H => ?_)
  have hT1 := vx_Tsh hT hs1
  replace H := H hT1
  refine vx_aload_n (n := 0) (q := 5) (by decide +kernel) rfl ?_
  refine vx_aload_n (n := 0) (q := 6) (by decide +kernel) rfl ?_
  refine vx_getI (idx := 342) (kd := 9) (s := 11) (fin := false) (q := 9) (by decide +kernel) (vx_Tk hT1 (by decide +kernel)) ?_
  refine vx_putI (idx := 238) (kd := 9) (s := 48) (fin := false) (q := 12) (by decide +kernel) (vx_Tk hT1 (by decide +kernel)) (fun h2 e2 => ?_)
  have hT2 := vx_TJ hT1 e2
  replace H := H h2 e2 hT2
  refine vx_aload_n (n := 0) (q := 13) (by decide +kernel) rfl ?_
  refine vx_iconst (n := 0) (q := 14) (by decide +kernel) ?_
  refine vx_putZ (idx := 245) (kd := 9) (s := 49) (fin := false) (q := 17) (by decide +kernel) (vx_Tk hT2 (by decide +kernel)) (Or.inl rfl) (fun h3 e3 => ?_)
  have hT3 := vx_TJ hT2 e3
  replace H := H h3 e3 hT3
  refine vx_aload_n (n := 0) (q := 18) (by decide +kernel) rfl ?_
  refine vx_bipush (n := 60) (q := 20) (by decide +kernel) ?_
  refine vx_callV (i := .invokevirtual 308) (how := 3) (cm := 51) (np := 2) (q := 23) (args := [.ref 625, .int (vx_i 60)]) (rest := []) (by decide +kernel) rfl rfl rfl (vx_w2 (w := 2) (ml := 2) rfl (by decide +kernel)) (vx_rcv (kd := 9) (vx_Tk hT3 (by decide +kernel)) (by decide +kernel)) H (fun h4 hs4 H => ?_)
  have hT4 := vx_Tsh hT3 hs4
  replace H := H hT4
  refine vx_aload_n (n := 0) (q := 24) (by decide +kernel) rfl ?_
  refine vx_callI (i := .invokevirtual 321) (how := 3) (cm := 46) (np := 1) (q := 27) (args := [.ref 625]) (rest := []) (by decide +kernel) rfl rfl rfl (vx_w2 (w := 1) (ml := 1) rfl (by decide +kernel)) (vx_rcv (kd := 9) (vx_Tk hT4 (by decide +kernel)) (by decide +kernel)) H (fun r5 h5 hr5 hs5 H => ?_)
  have hT5 := vx_Tsh hT4 hs5
  replace H := H hT5
  refine vx_if0_eq (off := 36) (q := 30) (t := 63) (by decide +kernel) hr5 (fun c6 => ?_) (fun c6 => ?_)
  · replace H := H.1 c6
    refine vx_aload_n (n := 0) (q := 64) (by decide +kernel) rfl ?_
    refine vx_getI (idx := 201) (kd := 9) (s := 3) (fin := false) (q := 67) (by decide +kernel) (vx_Tk hT5 (by decide +kernel)) ?_
    refine vx_if0_eq (off := 9) (q := 70) (t := 76) (by decide +kernel) (vx_rI_J h5 625 3) (fun c7 => ?_) (fun c7 => ?_)
    · replace H := H.1 c7
      refine vx_aload_n (n := 0) (q := 77) (by decide +kernel) rfl ?_
      refine vx_getI (idx := 83) (kd := 9) (s := 31) (fin := false) (q := 80) (by decide +kernel) (vx_Tk hT5 (by decide +kernel)) ?_
      refine vx_iconst (n := 1) (q := 81) (by decide +kernel) ?_
      refine vx_icmp_ne (off := 13) (q := 84) (t := 94) (by decide +kernel) (vx_rI_J h5 625 31) (by decide) (fun c8 => ?_) (fun c8 => ?_)
      · replace H := H.1 c8
        refine vx_aload_n (n := 0) (q := 95) (by decide +kernel) rfl ?_
        refine vx_iconst (n := 2) (q := 96) (by decide +kernel) ?_
        refine vx_callI (i := .invokevirtual 351) (how := 3) (cm := 20) (np := 2) (q := 99) (args := [.ref 625, .int (vx_i 2)]) (rest := []) (by decide +kernel) rfl rfl rfl (vx_w2 (w := 2) (ml := 2) rfl (by decide +kernel)) (vx_rcv (kd := 9) (vx_Tk hT5 (by decide +kernel)) (by decide +kernel)) H (fun r9 h9 hr9 hs9 H => ?_)
        have hT9 := vx_Tsh hT5 hs9
        replace H := H hT9
        refine vx_retI (q := 100) (by decide +kernel) hr9 ?_
        exact H
      · replace H := H.2 c8
        refine vx_aload_n (n := 0) (q := 85) (by decide +kernel) rfl ?_
        refine vx_getI (idx := 480) (kd := 9) (s := 37) (fin := false) (q := 88) (by decide +kernel) (vx_Tk hT5 (by decide +kernel)) ?_
        refine vx_sipush (n := 500) (q := 91) (by decide +kernel) ?_
        refine vx_icmp_ne (off := 9) (q := 94) (t := 100) (by decide +kernel) (vx_rI_J h5 625 37) (by decide) (fun c10 => ?_) (fun c10 => ?_)
        · replace H := H.1 c10
          refine vx_aload_n (n := 0) (q := 101) (by decide +kernel) rfl ?_
          refine vx_iconst (n := 0) (q := 102) (by decide +kernel) ?_
          refine vx_putI (idx := 474) (kd := 9) (s := 78) (fin := false) (q := 105) (by decide +kernel) (vx_Tk hT5 (by decide +kernel)) (fun h11 e11 => ?_)
          have hT11 := vx_TJ hT5 e11
          replace H := H h11 e11 hT11
          refine vx_aload_n (n := 0) (q := 106) (by decide +kernel) rfl ?_
          refine vx_iconst (n := 0) (q := 107) (by decide +kernel) ?_
          refine vx_putZ (idx := 422) (kd := 9) (s := 68) (fin := false) (q := 110) (by decide +kernel) (vx_Tk hT11 (by decide +kernel)) (Or.inl rfl) (fun h12 e12 => ?_)
          have hT12 := vx_TJ hT11 e12
          replace H := H h12 e12 hT12
          refine vx_aload_n (n := 0) (q := 111) (by decide +kernel) rfl ?_
          refine vx_aload_n (n := 0) (q := 112) (by decide +kernel) rfl ?_
          refine vx_getI (idx := 357) (kd := 9) (s := 32) (fin := false) (q := 115) (by decide +kernel) (vx_Tk hT12 (by decide +kernel)) ?_
          refine vx_putI (idx := 398) (kd := 9) (s := 65) (fin := false) (q := 118) (by decide +kernel) (vx_Tk hT12 (by decide +kernel)) (fun h13 e13 => ?_)
          have hT13 := vx_TJ hT12 e13
          replace H := H h13 e13 hT13
          refine vx_aload_n (n := 0) (q := 119) (by decide +kernel) rfl ?_
          refine vx_iconst (n := 2) (q := 120) (by decide +kernel) ?_
          refine vx_putI (idx := 428) (kd := 9) (s := 66) (fin := false) (q := 123) (by decide +kernel) (vx_Tk hT13 (by decide +kernel)) (fun h14 e14 => ?_)
          have hT14 := vx_TJ hT13 e14
          replace H := H h14 e14 hT14
          refine vx_aload_n (n := 0) (q := 124) (by decide +kernel) rfl ?_
          refine vx_bipush (n := 60) (q := 126) (by decide +kernel) ?_
          refine vx_callV (i := .invokevirtual 459) (how := 3) (cm := 79) (np := 2) (q := 129) (args := [.ref 625, .int (vx_i 60)]) (rest := []) (by decide +kernel) rfl rfl rfl (vx_w2 (w := 2) (ml := 3) rfl (by decide +kernel)) (vx_rcv (kd := 9) (vx_Tk hT14 (by decide +kernel)) (by decide +kernel)) H (fun h15 hs15 H => ?_)
          have hT15 := vx_Tsh hT14 hs15
          replace H := H hT15
          refine vx_aload_n (n := 0) (q := 130) (by decide +kernel) rfl ?_
          refine vx_getZ (idx := 422) (kd := 9) (s := 68) (fin := false) (q := 133) (by decide +kernel) (vx_Tk hT15 (by decide +kernel)) ?_
          refine vx_if0_eq (off := 9) (q := 136) (t := 142) (by decide +kernel) (vx_rI_J h15 625 68) (fun c16 => ?_) (fun c16 => ?_)
          · replace H := H.1 c16
            refine vx_aload_n (n := 0) (q := 143) (by decide +kernel) rfl ?_
            refine vx_iconst (n := 0) (q := 144) (by decide +kernel) ?_
            refine vx_putI (idx := 154) (kd := 9) (s := 0) (fin := false) (q := 147) (by decide +kernel) (vx_Tk hT15 (by decide +kernel)) (fun h17 e17 => ?_)
            have hT17 := vx_TJ hT15 e17
            replace H := H h17 e17 hT17
            refine vx_aload_n (n := 0) (q := 148) (by decide +kernel) rfl ?_
            refine vx_dupR (q := 149) (by decide +kernel) ?_
            refine vx_getI (idx := 480) (kd := 9) (s := 37) (fin := false) (q := 152) (by decide +kernel) (vx_Tk hT17 (by decide +kernel)) ?_
            refine vx_iconst (n := 1) (q := 153) (by decide +kernel) ?_
            refine vx_iadd (q := 154) (by decide +kernel) ?_
            refine vx_putI (idx := 480) (kd := 9) (s := 37) (fin := false) (q := 157) (by decide +kernel) (vx_Tk hT17 (by decide +kernel)) (fun h18 e18 => ?_)
            have hT18 := vx_TJ hT17 e18
            replace H := H h18 e18 hT18
            refine vx_aload_n (n := 0) (q := 158) (by decide +kernel) rfl ?_
            refine vx_aload_n (n := 0) (q := 159) (by decide +kernel) rfl ?_
            refine vx_getI (idx := 474) (kd := 9) (s := 78) (fin := false) (q := 162) (by decide +kernel) (vx_Tk hT18 (by decide +kernel)) ?_
            refine vx_putI (idx := 483) (kd := 9) (s := 38) (fin := false) (q := 165) (by decide +kernel) (vx_Tk hT18 (by decide +kernel)) (fun h19 e19 => ?_)
            have hT19 := vx_TJ hT18 e19
            replace H := H h19 e19 hT19
            refine vx_aload_n (n := 0) (q := 166) (by decide +kernel) rfl ?_
            refine vx_aload_n (n := 0) (q := 167) (by decide +kernel) rfl ?_
            refine vx_getR (b := 642) (idx := 59) (kd := 9) (s := 23) (fin := true) (q := 170) (by decide +kernel) (vx_Tk hT19 (by decide +kernel)) (vx_Tr hT19 (kd := 9) (by decide +kernel) (by decide +kernel) (by decide +kernel)) ?_
            refine vx_bipush (n := 60) (q := 172) (by decide +kernel) ?_
            refine vx_iaload (z := 61) (q := 173) (by decide +kernel) (vx_Tk hT19 (by decide +kernel)) (vx_Tz hT19 (by decide +kernel)) (by decide) ?_
            refine vx_putI (idx := 477) (kd := 9) (s := 39) (fin := false) (q := 176) (by decide +kernel) (vx_Tk hT19 (by decide +kernel)) (fun h20 e20 => ?_)
            have hT20 := vx_TJ hT19 e20
            replace H := H h20 e20 hT20
            refine vx_iconst (n := 0) (q := 177) (by decide +kernel) ?_
            refine vx_istore_n (n := 1) (q := 178) (lv' := [some (.ref 625), some (.int (vx_i 0)), none, none]) (by decide +kernel) rfl ?_
            exact H
          · replace H := H.2 c16
            refine vx_aload_n (n := 0) (q := 137) (by decide +kernel) rfl ?_
            refine vx_iconst (n := 2) (q := 138) (by decide +kernel) ?_
            refine vx_callI (i := .invokevirtual 351) (how := 3) (cm := 20) (np := 2) (q := 141) (args := [.ref 625, .int (vx_i 2)]) (rest := []) (by decide +kernel) rfl rfl rfl (vx_w2 (w := 2) (ml := 2) rfl (by decide +kernel)) (vx_rcv (kd := 9) (vx_Tk hT15 (by decide +kernel)) (by decide +kernel)) H (fun r21 h21 hr21 hs21 H => ?_)
            have hT21 := vx_Tsh hT15 hs21
            replace H := H hT21
            refine vx_retI (q := 142) (by decide +kernel) hr21 ?_
            exact H
        · replace H := H.2 c10
          refine vx_aload_n (n := 0) (q := 95) (by decide +kernel) rfl ?_
          refine vx_iconst (n := 2) (q := 96) (by decide +kernel) ?_
          refine vx_callI (i := .invokevirtual 351) (how := 3) (cm := 20) (np := 2) (q := 99) (args := [.ref 625, .int (vx_i 2)]) (rest := []) (by decide +kernel) rfl rfl rfl (vx_w2 (w := 2) (ml := 2) rfl (by decide +kernel)) (vx_rcv (kd := 9) (vx_Tk hT5 (by decide +kernel)) (by decide +kernel)) H (fun r22 h22 hr22 hs22 H => ?_)
          have hT22 := vx_Tsh hT5 hs22
          replace H := H hT22
          refine vx_retI (q := 100) (by decide +kernel) hr22 ?_
          exact H
    · replace H := H.2 c7
      refine vx_aload_n (n := 0) (q := 71) (by decide +kernel) rfl ?_
      refine vx_iconst (n := 1) (q := 72) (by decide +kernel) ?_
      refine vx_callI (i := .invokevirtual 351) (how := 3) (cm := 20) (np := 2) (q := 75) (args := [.ref 625, .int (vx_i 1)]) (rest := []) (by decide +kernel) rfl rfl rfl (vx_w2 (w := 2) (ml := 2) rfl (by decide +kernel)) (vx_rcv (kd := 9) (vx_Tk hT5 (by decide +kernel)) (by decide +kernel)) H (fun r23 h23 hr23 hs23 H => ?_)
      have hT23 := vx_Tsh hT5 hs23
      replace H := H hT23
      refine vx_retI (q := 76) (by decide +kernel) hr23 ?_
      exact H
  · replace H := H.2 c6
    refine vx_aload_n (n := 0) (q := 31) (by decide +kernel) rfl ?_
    refine vx_bipush (n := 63) (q := 33) (by decide +kernel) ?_
    refine vx_callI (i := .invokevirtual 256) (how := 3) (cm := 36) (np := 2) (q := 36) (args := [.ref 625, .int (vx_i 63)]) (rest := []) (by decide +kernel) rfl rfl rfl (vx_w2 (w := 2) (ml := 2) rfl (by decide +kernel)) (vx_rcv (kd := 9) (vx_Tk hT5 (by decide +kernel)) (by decide +kernel)) H (fun r24 h24 hr24 hs24 H => ?_)
    have hT24 := vx_Tsh hT5 hs24
    replace H := H hT24
    refine vx_if0_eq (off := 27) (q := 39) (t := 63) (by decide +kernel) hr24 (fun c25 => ?_) (fun c25 => ?_)
    · replace H := H.1 c25
      refine vx_aload_n (n := 0) (q := 64) (by decide +kernel) rfl ?_
      refine vx_getI (idx := 201) (kd := 9) (s := 3) (fin := false) (q := 67) (by decide +kernel) (vx_Tk hT24 (by decide +kernel)) ?_
      refine vx_if0_eq (off := 9) (q := 70) (t := 76) (by decide +kernel) (vx_rI_J h24 625 3) (fun c26 => ?_) (fun c26 => ?_)
      · replace H := H.1 c26
        refine vx_aload_n (n := 0) (q := 77) (by decide +kernel) rfl ?_
        refine vx_getI (idx := 83) (kd := 9) (s := 31) (fin := false) (q := 80) (by decide +kernel) (vx_Tk hT24 (by decide +kernel)) ?_
        refine vx_iconst (n := 1) (q := 81) (by decide +kernel) ?_
        refine vx_icmp_ne (off := 13) (q := 84) (t := 94) (by decide +kernel) (vx_rI_J h24 625 31) (by decide) (fun c27 => ?_) (fun c27 => ?_)
        · replace H := H.1 c27
          refine vx_aload_n (n := 0) (q := 95) (by decide +kernel) rfl ?_
          refine vx_iconst (n := 2) (q := 96) (by decide +kernel) ?_
          refine vx_callI (i := .invokevirtual 351) (how := 3) (cm := 20) (np := 2) (q := 99) (args := [.ref 625, .int (vx_i 2)]) (rest := []) (by decide +kernel) rfl rfl rfl (vx_w2 (w := 2) (ml := 2) rfl (by decide +kernel)) (vx_rcv (kd := 9) (vx_Tk hT24 (by decide +kernel)) (by decide +kernel)) H (fun r28 h28 hr28 hs28 H => ?_)
          have hT28 := vx_Tsh hT24 hs28
          replace H := H hT28
          refine vx_retI (q := 100) (by decide +kernel) hr28 ?_
          exact H
        · replace H := H.2 c27
          refine vx_aload_n (n := 0) (q := 85) (by decide +kernel) rfl ?_
          refine vx_getI (idx := 480) (kd := 9) (s := 37) (fin := false) (q := 88) (by decide +kernel) (vx_Tk hT24 (by decide +kernel)) ?_
          refine vx_sipush (n := 500) (q := 91) (by decide +kernel) ?_
          refine vx_icmp_ne (off := 9) (q := 94) (t := 100) (by decide +kernel) (vx_rI_J h24 625 37) (by decide) (fun c29 => ?_) (fun c29 => ?_)
          · replace H := H.1 c29
            refine vx_aload_n (n := 0) (q := 101) (by decide +kernel) rfl ?_
            refine vx_iconst (n := 0) (q := 102) (by decide +kernel) ?_
            refine vx_putI (idx := 474) (kd := 9) (s := 78) (fin := false) (q := 105) (by decide +kernel) (vx_Tk hT24 (by decide +kernel)) (fun h30 e30 => ?_)
            have hT30 := vx_TJ hT24 e30
            replace H := H h30 e30 hT30
            refine vx_aload_n (n := 0) (q := 106) (by decide +kernel) rfl ?_
            refine vx_iconst (n := 0) (q := 107) (by decide +kernel) ?_
            refine vx_putZ (idx := 422) (kd := 9) (s := 68) (fin := false) (q := 110) (by decide +kernel) (vx_Tk hT30 (by decide +kernel)) (Or.inl rfl) (fun h31 e31 => ?_)
            have hT31 := vx_TJ hT30 e31
            replace H := H h31 e31 hT31
            refine vx_aload_n (n := 0) (q := 111) (by decide +kernel) rfl ?_
            refine vx_aload_n (n := 0) (q := 112) (by decide +kernel) rfl ?_
            refine vx_getI (idx := 357) (kd := 9) (s := 32) (fin := false) (q := 115) (by decide +kernel) (vx_Tk hT31 (by decide +kernel)) ?_
            refine vx_putI (idx := 398) (kd := 9) (s := 65) (fin := false) (q := 118) (by decide +kernel) (vx_Tk hT31 (by decide +kernel)) (fun h32 e32 => ?_)
            have hT32 := vx_TJ hT31 e32
            replace H := H h32 e32 hT32
            refine vx_aload_n (n := 0) (q := 119) (by decide +kernel) rfl ?_
            refine vx_iconst (n := 2) (q := 120) (by decide +kernel) ?_
            refine vx_putI (idx := 428) (kd := 9) (s := 66) (fin := false) (q := 123) (by decide +kernel) (vx_Tk hT32 (by decide +kernel)) (fun h33 e33 => ?_)
            have hT33 := vx_TJ hT32 e33
            replace H := H h33 e33 hT33
            refine vx_aload_n (n := 0) (q := 124) (by decide +kernel) rfl ?_
            refine vx_bipush (n := 60) (q := 126) (by decide +kernel) ?_
            refine vx_callV (i := .invokevirtual 459) (how := 3) (cm := 79) (np := 2) (q := 129) (args := [.ref 625, .int (vx_i 60)]) (rest := []) (by decide +kernel) rfl rfl rfl (vx_w2 (w := 2) (ml := 3) rfl (by decide +kernel)) (vx_rcv (kd := 9) (vx_Tk hT33 (by decide +kernel)) (by decide +kernel)) H (fun h34 hs34 H => ?_)
            have hT34 := vx_Tsh hT33 hs34
            replace H := H hT34
            refine vx_aload_n (n := 0) (q := 130) (by decide +kernel) rfl ?_
            refine vx_getZ (idx := 422) (kd := 9) (s := 68) (fin := false) (q := 133) (by decide +kernel) (vx_Tk hT34 (by decide +kernel)) ?_
            refine vx_if0_eq (off := 9) (q := 136) (t := 142) (by decide +kernel) (vx_rI_J h34 625 68) (fun c35 => ?_) (fun c35 => ?_)
            · replace H := H.1 c35
              refine vx_aload_n (n := 0) (q := 143) (by decide +kernel) rfl ?_
              refine vx_iconst (n := 0) (q := 144) (by decide +kernel) ?_
              refine vx_putI (idx := 154) (kd := 9) (s := 0) (fin := false) (q := 147) (by decide +kernel) (vx_Tk hT34 (by decide +kernel)) (fun h36 e36 => ?_)
              have hT36 := vx_TJ hT34 e36
              replace H := H h36 e36 hT36
              refine vx_aload_n (n := 0) (q := 148) (by decide +kernel) rfl ?_
              refine vx_dupR (q := 149) (by decide +kernel) ?_
              refine vx_getI (idx := 480) (kd := 9) (s := 37) (fin := false) (q := 152) (by decide +kernel) (vx_Tk hT36 (by decide +kernel)) ?_
              refine vx_iconst (n := 1) (q := 153) (by decide +kernel) ?_
              refine vx_iadd (q := 154) (by decide +kernel) ?_
              refine vx_putI (idx := 480) (kd := 9) (s := 37) (fin := false) (q := 157) (by decide +kernel) (vx_Tk hT36 (by decide +kernel)) (fun h37 e37 => ?_)
              have hT37 := vx_TJ hT36 e37
              replace H := H h37 e37 hT37
              refine vx_aload_n (n := 0) (q := 158) (by decide +kernel) rfl ?_
              refine vx_aload_n (n := 0) (q := 159) (by decide +kernel) rfl ?_
              refine vx_getI (idx := 474) (kd := 9) (s := 78) (fin := false) (q := 162) (by decide +kernel) (vx_Tk hT37 (by decide +kernel)) ?_
              refine vx_putI (idx := 483) (kd := 9) (s := 38) (fin := false) (q := 165) (by decide +kernel) (vx_Tk hT37 (by decide +kernel)) (fun h38 e38 => ?_)
              have hT38 := vx_TJ hT37 e38
              replace H := H h38 e38 hT38
              refine vx_aload_n (n := 0) (q := 166) (by decide +kernel) rfl ?_
              refine vx_aload_n (n := 0) (q := 167) (by decide +kernel) rfl ?_
              refine vx_getR (b := 642) (idx := 59) (kd := 9) (s := 23) (fin := true) (q := 170) (by decide +kernel) (vx_Tk hT38 (by decide +kernel)) (vx_Tr hT38 (kd := 9) (by decide +kernel) (by decide +kernel) (by decide +kernel)) ?_
              refine vx_bipush (n := 60) (q := 172) (by decide +kernel) ?_
              refine vx_iaload (z := 61) (q := 173) (by decide +kernel) (vx_Tk hT38 (by decide +kernel)) (vx_Tz hT38 (by decide +kernel)) (by decide) ?_
              refine vx_putI (idx := 477) (kd := 9) (s := 39) (fin := false) (q := 176) (by decide +kernel) (vx_Tk hT38 (by decide +kernel)) (fun h39 e39 => ?_)
              have hT39 := vx_TJ hT38 e39
              replace H := H h39 e39 hT39
              refine vx_iconst (n := 0) (q := 177) (by decide +kernel) ?_
              refine vx_istore_n (n := 1) (q := 178) (lv' := [some (.ref 625), some (.int (vx_i 0)), none, none]) (by decide +kernel) rfl ?_
              exact H
            · replace H := H.2 c35
              refine vx_aload_n (n := 0) (q := 137) (by decide +kernel) rfl ?_
              refine vx_iconst (n := 2) (q := 138) (by decide +kernel) ?_
              refine vx_callI (i := .invokevirtual 351) (how := 3) (cm := 20) (np := 2) (q := 141) (args := [.ref 625, .int (vx_i 2)]) (rest := []) (by decide +kernel) rfl rfl rfl (vx_w2 (w := 2) (ml := 2) rfl (by decide +kernel)) (vx_rcv (kd := 9) (vx_Tk hT34 (by decide +kernel)) (by decide +kernel)) H (fun r40 h40 hr40 hs40 H => ?_)
              have hT40 := vx_Tsh hT34 hs40
              replace H := H hT40
              refine vx_retI (q := 142) (by decide +kernel) hr40 ?_
              exact H
          · replace H := H.2 c29
            refine vx_aload_n (n := 0) (q := 95) (by decide +kernel) rfl ?_
            refine vx_iconst (n := 2) (q := 96) (by decide +kernel) ?_
            refine vx_callI (i := .invokevirtual 351) (how := 3) (cm := 20) (np := 2) (q := 99) (args := [.ref 625, .int (vx_i 2)]) (rest := []) (by decide +kernel) rfl rfl rfl (vx_w2 (w := 2) (ml := 2) rfl (by decide +kernel)) (vx_rcv (kd := 9) (vx_Tk hT24 (by decide +kernel)) (by decide +kernel)) H (fun r41 h41 hr41 hs41 H => ?_)
            have hT41 := vx_Tsh hT24 hs41
            replace H := H hT41
            refine vx_retI (q := 100) (by decide +kernel) hr41 ?_
            exact H
      · replace H := H.2 c26
        refine vx_aload_n (n := 0) (q := 71) (by decide +kernel) rfl ?_
        refine vx_iconst (n := 1) (q := 72) (by decide +kernel) ?_
        refine vx_callI (i := .invokevirtual 351) (how := 3) (cm := 20) (np := 2) (q := 75) (args := [.ref 625, .int (vx_i 1)]) (rest := []) (by decide +kernel) rfl rfl rfl (vx_w2 (w := 2) (ml := 2) rfl (by decide +kernel)) (vx_rcv (kd := 9) (vx_Tk hT24 (by decide +kernel)) (by decide +kernel)) H (fun r42 h42 hr42 hs42 H => ?_)
        have hT42 := vx_Tsh hT24 hs42
        replace H := H hT42
        refine vx_retI (q := 76) (by decide +kernel) hr42 ?_
        exact H
    · replace H := H.2 c25
      refine vx_aload_n (n := 0) (q := 40) (by decide +kernel) rfl ?_
      refine vx_getR (b := 627) (idx := 13) (kd := 9) (s := 6) (fin := true) (q := 43) (by decide +kernel) (vx_Tk hT24 (by decide +kernel)) (vx_Tr hT24 (kd := 9) (by decide +kernel) (by decide +kernel) (by decide +kernel)) ?_
      refine vx_aload_n (n := 0) (q := 44) (by decide +kernel) rfl ?_
      refine vx_getI (idx := 207) (kd := 9) (s := 10) (fin := false) (q := 47) (by decide +kernel) (vx_Tk hT24 (by decide +kernel)) ?_
      obtain ⟨k43, H⟩ := H
      refine vx_iaload (z := 602) (q := 48) (by decide +kernel) (vx_Tk hT24 (by decide +kernel)) (vx_Tz hT24 (by decide +kernel)) (vx_ix k43 (by decide)) ?_
      refine vx_if0_eq (off := 11) (q := 51) (t := 59) (by decide +kernel) (vx_rI_J h24 627 (vx_J h24 625 10).toNat) (fun c44 => ?_) (fun c44 => ?_)
      · replace H := H.1 c44
        refine vx_aload_n (n := 0) (q := 60) (by decide +kernel) rfl ?_
        refine vx_callV (i := .invokevirtual 324) (how := 3) (cm := 49) (np := 1) (q := 63) (args := [.ref 625]) (rest := []) (by decide +kernel) rfl rfl rfl (vx_w2 (w := 1) (ml := 5) rfl (by decide +kernel)) (vx_rcv (kd := 9) (vx_Tk hT24 (by decide +kernel)) (by decide +kernel)) H (fun h45 hs45 H => ?_)
        have hT45 := vx_Tsh hT24 hs45
        replace H := H hT45
        refine vx_aload_n (n := 0) (q := 64) (by decide +kernel) rfl ?_
        refine vx_getI (idx := 201) (kd := 9) (s := 3) (fin := false) (q := 67) (by decide +kernel) (vx_Tk hT45 (by decide +kernel)) ?_
        refine vx_if0_eq (off := 9) (q := 70) (t := 76) (by decide +kernel) (vx_rI_J h45 625 3) (fun c46 => ?_) (fun c46 => ?_)
        · replace H := H.1 c46
          refine vx_aload_n (n := 0) (q := 77) (by decide +kernel) rfl ?_
          refine vx_getI (idx := 83) (kd := 9) (s := 31) (fin := false) (q := 80) (by decide +kernel) (vx_Tk hT45 (by decide +kernel)) ?_
          refine vx_iconst (n := 1) (q := 81) (by decide +kernel) ?_
          refine vx_icmp_ne (off := 13) (q := 84) (t := 94) (by decide +kernel) (vx_rI_J h45 625 31) (by decide) (fun c47 => ?_) (fun c47 => ?_)
          · replace H := H.1 c47
            refine vx_aload_n (n := 0) (q := 95) (by decide +kernel) rfl ?_
            refine vx_iconst (n := 2) (q := 96) (by decide +kernel) ?_
            refine vx_callI (i := .invokevirtual 351) (how := 3) (cm := 20) (np := 2) (q := 99) (args := [.ref 625, .int (vx_i 2)]) (rest := []) (by decide +kernel) rfl rfl rfl (vx_w2 (w := 2) (ml := 2) rfl (by decide +kernel)) (vx_rcv (kd := 9) (vx_Tk hT45 (by decide +kernel)) (by decide +kernel)) H (fun r48 h48 hr48 hs48 H => ?_)
            have hT48 := vx_Tsh hT45 hs48
            replace H := H hT48
            refine vx_retI (q := 100) (by decide +kernel) hr48 ?_
            exact H
          · replace H := H.2 c47
            refine vx_aload_n (n := 0) (q := 85) (by decide +kernel) rfl ?_
            refine vx_getI (idx := 480) (kd := 9) (s := 37) (fin := false) (q := 88) (by decide +kernel) (vx_Tk hT45 (by decide +kernel)) ?_
            refine vx_sipush (n := 500) (q := 91) (by decide +kernel) ?_
            refine vx_icmp_ne (off := 9) (q := 94) (t := 100) (by decide +kernel) (vx_rI_J h45 625 37) (by decide) (fun c49 => ?_) (fun c49 => ?_)
            · replace H := H.1 c49
              refine vx_aload_n (n := 0) (q := 101) (by decide +kernel) rfl ?_
              refine vx_iconst (n := 0) (q := 102) (by decide +kernel) ?_
              refine vx_putI (idx := 474) (kd := 9) (s := 78) (fin := false) (q := 105) (by decide +kernel) (vx_Tk hT45 (by decide +kernel)) (fun h50 e50 => ?_)
              have hT50 := vx_TJ hT45 e50
              replace H := H h50 e50 hT50
              refine vx_aload_n (n := 0) (q := 106) (by decide +kernel) rfl ?_
              refine vx_iconst (n := 0) (q := 107) (by decide +kernel) ?_
              refine vx_putZ (idx := 422) (kd := 9) (s := 68) (fin := false) (q := 110) (by decide +kernel) (vx_Tk hT50 (by decide +kernel)) (Or.inl rfl) (fun h51 e51 => ?_)
              have hT51 := vx_TJ hT50 e51
              replace H := H h51 e51 hT51
              refine vx_aload_n (n := 0) (q := 111) (by decide +kernel) rfl ?_
              refine vx_aload_n (n := 0) (q := 112) (by decide +kernel) rfl ?_
              refine vx_getI (idx := 357) (kd := 9) (s := 32) (fin := false) (q := 115) (by decide +kernel) (vx_Tk hT51 (by decide +kernel)) ?_
              refine vx_putI (idx := 398) (kd := 9) (s := 65) (fin := false) (q := 118) (by decide +kernel) (vx_Tk hT51 (by decide +kernel)) (fun h52 e52 => ?_)
              have hT52 := vx_TJ hT51 e52
              replace H := H h52 e52 hT52
              refine vx_aload_n (n := 0) (q := 119) (by decide +kernel) rfl ?_
              refine vx_iconst (n := 2) (q := 120) (by decide +kernel) ?_
              refine vx_putI (idx := 428) (kd := 9) (s := 66) (fin := false) (q := 123) (by decide +kernel) (vx_Tk hT52 (by decide +kernel)) (fun h53 e53 => ?_)
              have hT53 := vx_TJ hT52 e53
              replace H := H h53 e53 hT53
              refine vx_aload_n (n := 0) (q := 124) (by decide +kernel) rfl ?_
              refine vx_bipush (n := 60) (q := 126) (by decide +kernel) ?_
              refine vx_callV (i := .invokevirtual 459) (how := 3) (cm := 79) (np := 2) (q := 129) (args := [.ref 625, .int (vx_i 60)]) (rest := []) (by decide +kernel) rfl rfl rfl (vx_w2 (w := 2) (ml := 3) rfl (by decide +kernel)) (vx_rcv (kd := 9) (vx_Tk hT53 (by decide +kernel)) (by decide +kernel)) H (fun h54 hs54 H => ?_)
              have hT54 := vx_Tsh hT53 hs54
              replace H := H hT54
              refine vx_aload_n (n := 0) (q := 130) (by decide +kernel) rfl ?_
              refine vx_getZ (idx := 422) (kd := 9) (s := 68) (fin := false) (q := 133) (by decide +kernel) (vx_Tk hT54 (by decide +kernel)) ?_
              refine vx_if0_eq (off := 9) (q := 136) (t := 142) (by decide +kernel) (vx_rI_J h54 625 68) (fun c55 => ?_) (fun c55 => ?_)
              · replace H := H.1 c55
                refine vx_aload_n (n := 0) (q := 143) (by decide +kernel) rfl ?_
                refine vx_iconst (n := 0) (q := 144) (by decide +kernel) ?_
                refine vx_putI (idx := 154) (kd := 9) (s := 0) (fin := false) (q := 147) (by decide +kernel) (vx_Tk hT54 (by decide +kernel)) (fun h56 e56 => ?_)
                have hT56 := vx_TJ hT54 e56
                replace H := H h56 e56 hT56
                refine vx_aload_n (n := 0) (q := 148) (by decide +kernel) rfl ?_
                refine vx_dupR (q := 149) (by decide +kernel) ?_
                refine vx_getI (idx := 480) (kd := 9) (s := 37) (fin := false) (q := 152) (by decide +kernel) (vx_Tk hT56 (by decide +kernel)) ?_
                refine vx_iconst (n := 1) (q := 153) (by decide +kernel) ?_
                refine vx_iadd (q := 154) (by decide +kernel) ?_
                refine vx_putI (idx := 480) (kd := 9) (s := 37) (fin := false) (q := 157) (by decide +kernel) (vx_Tk hT56 (by decide +kernel)) (fun h57 e57 => ?_)
                have hT57 := vx_TJ hT56 e57
                replace H := H h57 e57 hT57
                refine vx_aload_n (n := 0) (q := 158) (by decide +kernel) rfl ?_
                refine vx_aload_n (n := 0) (q := 159) (by decide +kernel) rfl ?_
                refine vx_getI (idx := 474) (kd := 9) (s := 78) (fin := false) (q := 162) (by decide +kernel) (vx_Tk hT57 (by decide +kernel)) ?_
                refine vx_putI (idx := 483) (kd := 9) (s := 38) (fin := false) (q := 165) (by decide +kernel) (vx_Tk hT57 (by decide +kernel)) (fun h58 e58 => ?_)
                have hT58 := vx_TJ hT57 e58
                replace H := H h58 e58 hT58
                refine vx_aload_n (n := 0) (q := 166) (by decide +kernel) rfl ?_
                refine vx_aload_n (n := 0) (q := 167) (by decide +kernel) rfl ?_
                refine vx_getR (b := 642) (idx := 59) (kd := 9) (s := 23) (fin := true) (q := 170) (by decide +kernel) (vx_Tk hT58 (by decide +kernel)) (vx_Tr hT58 (kd := 9) (by decide +kernel) (by decide +kernel) (by decide +kernel)) ?_
                refine vx_bipush (n := 60) (q := 172) (by decide +kernel) ?_
                refine vx_iaload (z := 61) (q := 173) (by decide +kernel) (vx_Tk hT58 (by decide +kernel)) (vx_Tz hT58 (by decide +kernel)) (by decide) ?_
                refine vx_putI (idx := 477) (kd := 9) (s := 39) (fin := false) (q := 176) (by decide +kernel) (vx_Tk hT58 (by decide +kernel)) (fun h59 e59 => ?_)
                have hT59 := vx_TJ hT58 e59
                replace H := H h59 e59 hT59
                refine vx_iconst (n := 0) (q := 177) (by decide +kernel) ?_
                refine vx_istore_n (n := 1) (q := 178) (lv' := [some (.ref 625), some (.int (vx_i 0)), none, none]) (by decide +kernel) rfl ?_
                exact H
              · replace H := H.2 c55
                refine vx_aload_n (n := 0) (q := 137) (by decide +kernel) rfl ?_
                refine vx_iconst (n := 2) (q := 138) (by decide +kernel) ?_
                refine vx_callI (i := .invokevirtual 351) (how := 3) (cm := 20) (np := 2) (q := 141) (args := [.ref 625, .int (vx_i 2)]) (rest := []) (by decide +kernel) rfl rfl rfl (vx_w2 (w := 2) (ml := 2) rfl (by decide +kernel)) (vx_rcv (kd := 9) (vx_Tk hT54 (by decide +kernel)) (by decide +kernel)) H (fun r60 h60 hr60 hs60 H => ?_)
                have hT60 := vx_Tsh hT54 hs60
                replace H := H hT60
                refine vx_retI (q := 142) (by decide +kernel) hr60 ?_
                exact H
            · replace H := H.2 c49
              refine vx_aload_n (n := 0) (q := 95) (by decide +kernel) rfl ?_
              refine vx_iconst (n := 2) (q := 96) (by decide +kernel) ?_
              refine vx_callI (i := .invokevirtual 351) (how := 3) (cm := 20) (np := 2) (q := 99) (args := [.ref 625, .int (vx_i 2)]) (rest := []) (by decide +kernel) rfl rfl rfl (vx_w2 (w := 2) (ml := 2) rfl (by decide +kernel)) (vx_rcv (kd := 9) (vx_Tk hT45 (by decide +kernel)) (by decide +kernel)) H (fun r61 h61 hr61 hs61 H => ?_)
              have hT61 := vx_Tsh hT45 hs61
              replace H := H hT61
              refine vx_retI (q := 100) (by decide +kernel) hr61 ?_
              exact H
        · replace H := H.2 c46
          refine vx_aload_n (n := 0) (q := 71) (by decide +kernel) rfl ?_
          refine vx_iconst (n := 1) (q := 72) (by decide +kernel) ?_
          refine vx_callI (i := .invokevirtual 351) (how := 3) (cm := 20) (np := 2) (q := 75) (args := [.ref 625, .int (vx_i 1)]) (rest := []) (by decide +kernel) rfl rfl rfl (vx_w2 (w := 2) (ml := 2) rfl (by decide +kernel)) (vx_rcv (kd := 9) (vx_Tk hT45 (by decide +kernel)) (by decide +kernel)) H (fun r62 h62 hr62 hs62 H => ?_)
          have hT62 := vx_Tsh hT45 hs62
          replace H := H hT62
          refine vx_retI (q := 76) (by decide +kernel) hr62 ?_
          exact H
      · replace H := H.2 c44
        refine vx_aload_n (n := 0) (q := 52) (by decide +kernel) rfl ?_
        refine vx_callI (i := .invokevirtual 219) (how := 3) (cm := 33) (np := 1) (q := 55) (args := [.ref 625]) (rest := []) (by decide +kernel) rfl rfl rfl (vx_w2 (w := 1) (ml := 1) rfl (by decide +kernel)) (vx_rcv (kd := 9) (vx_Tk hT24 (by decide +kernel)) (by decide +kernel)) H (fun r63 h63 hr63 hs63 H => ?_)
        have hT63 := vx_Tsh hT24 hs63
        replace H := H hT63
        refine vx_popI (q := 56) (by decide +kernel) ?_
        refine vx_goto (off := 7) (q := 59) (t := 63) (by decide +kernel) ?_
        refine vx_aload_n (n := 0) (q := 64) (by decide +kernel) rfl ?_
        refine vx_getI (idx := 201) (kd := 9) (s := 3) (fin := false) (q := 67) (by decide +kernel) (vx_Tk hT63 (by decide +kernel)) ?_
        refine vx_if0_eq (off := 9) (q := 70) (t := 76) (by decide +kernel) (vx_rI_J h63 625 3) (fun c64 => ?_) (fun c64 => ?_)
        · replace H := H.1 c64
          refine vx_aload_n (n := 0) (q := 77) (by decide +kernel) rfl ?_
          refine vx_getI (idx := 83) (kd := 9) (s := 31) (fin := false) (q := 80) (by decide +kernel) (vx_Tk hT63 (by decide +kernel)) ?_
          refine vx_iconst (n := 1) (q := 81) (by decide +kernel) ?_
          refine vx_icmp_ne (off := 13) (q := 84) (t := 94) (by decide +kernel) (vx_rI_J h63 625 31) (by decide) (fun c65 => ?_) (fun c65 => ?_)
          · replace H := H.1 c65
            refine vx_aload_n (n := 0) (q := 95) (by decide +kernel) rfl ?_
            refine vx_iconst (n := 2) (q := 96) (by decide +kernel) ?_
            refine vx_callI (i := .invokevirtual 351) (how := 3) (cm := 20) (np := 2) (q := 99) (args := [.ref 625, .int (vx_i 2)]) (rest := []) (by decide +kernel) rfl rfl rfl (vx_w2 (w := 2) (ml := 2) rfl (by decide +kernel)) (vx_rcv (kd := 9) (vx_Tk hT63 (by decide +kernel)) (by decide +kernel)) H (fun r66 h66 hr66 hs66 H => ?_)
            have hT66 := vx_Tsh hT63 hs66
            replace H := H hT66
            refine vx_retI (q := 100) (by decide +kernel) hr66 ?_
            exact H
          · replace H := H.2 c65
            refine vx_aload_n (n := 0) (q := 85) (by decide +kernel) rfl ?_
            refine vx_getI (idx := 480) (kd := 9) (s := 37) (fin := false) (q := 88) (by decide +kernel) (vx_Tk hT63 (by decide +kernel)) ?_
            refine vx_sipush (n := 500) (q := 91) (by decide +kernel) ?_
            refine vx_icmp_ne (off := 9) (q := 94) (t := 100) (by decide +kernel) (vx_rI_J h63 625 37) (by decide) (fun c67 => ?_) (fun c67 => ?_)
            · replace H := H.1 c67
              refine vx_aload_n (n := 0) (q := 101) (by decide +kernel) rfl ?_
              refine vx_iconst (n := 0) (q := 102) (by decide +kernel) ?_
              refine vx_putI (idx := 474) (kd := 9) (s := 78) (fin := false) (q := 105) (by decide +kernel) (vx_Tk hT63 (by decide +kernel)) (fun h68 e68 => ?_)
              have hT68 := vx_TJ hT63 e68
              replace H := H h68 e68 hT68
              refine vx_aload_n (n := 0) (q := 106) (by decide +kernel) rfl ?_
              refine vx_iconst (n := 0) (q := 107) (by decide +kernel) ?_
              refine vx_putZ (idx := 422) (kd := 9) (s := 68) (fin := false) (q := 110) (by decide +kernel) (vx_Tk hT68 (by decide +kernel)) (Or.inl rfl) (fun h69 e69 => ?_)
              have hT69 := vx_TJ hT68 e69
              replace H := H h69 e69 hT69
              refine vx_aload_n (n := 0) (q := 111) (by decide +kernel) rfl ?_
              refine vx_aload_n (n := 0) (q := 112) (by decide +kernel) rfl ?_
              refine vx_getI (idx := 357) (kd := 9) (s := 32) (fin := false) (q := 115) (by decide +kernel) (vx_Tk hT69 (by decide +kernel)) ?_
              refine vx_putI (idx := 398) (kd := 9) (s := 65) (fin := false) (q := 118) (by decide +kernel) (vx_Tk hT69 (by decide +kernel)) (fun h70 e70 => ?_)
              have hT70 := vx_TJ hT69 e70
              replace H := H h70 e70 hT70
              refine vx_aload_n (n := 0) (q := 119) (by decide +kernel) rfl ?_
              refine vx_iconst (n := 2) (q := 120) (by decide +kernel) ?_
              refine vx_putI (idx := 428) (kd := 9) (s := 66) (fin := false) (q := 123) (by decide +kernel) (vx_Tk hT70 (by decide +kernel)) (fun h71 e71 => ?_)
              have hT71 := vx_TJ hT70 e71
              replace H := H h71 e71 hT71
              refine vx_aload_n (n := 0) (q := 124) (by decide +kernel) rfl ?_
              refine vx_bipush (n := 60) (q := 126) (by decide +kernel) ?_
              refine vx_callV (i := .invokevirtual 459) (how := 3) (cm := 79) (np := 2) (q := 129) (args := [.ref 625, .int (vx_i 60)]) (rest := []) (by decide +kernel) rfl rfl rfl (vx_w2 (w := 2) (ml := 3) rfl (by decide +kernel)) (vx_rcv (kd := 9) (vx_Tk hT71 (by decide +kernel)) (by decide +kernel)) H (fun h72 hs72 H => ?_)
              have hT72 := vx_Tsh hT71 hs72
              replace H := H hT72
              refine vx_aload_n (n := 0) (q := 130) (by decide +kernel) rfl ?_
              refine vx_getZ (idx := 422) (kd := 9) (s := 68) (fin := false) (q := 133) (by decide +kernel) (vx_Tk hT72 (by decide +kernel)) ?_
              refine vx_if0_eq (off := 9) (q := 136) (t := 142) (by decide +kernel) (vx_rI_J h72 625 68) (fun c73 => ?_) (fun c73 => ?_)
              · replace H := H.1 c73
                refine vx_aload_n (n := 0) (q := 143) (by decide +kernel) rfl ?_
                refine vx_iconst (n := 0) (q := 144) (by decide +kernel) ?_
                refine vx_putI (idx := 154) (kd := 9) (s := 0) (fin := false) (q := 147) (by decide +kernel) (vx_Tk hT72 (by decide +kernel)) (fun h74 e74 => ?_)
                have hT74 := vx_TJ hT72 e74
                replace H := H h74 e74 hT74
                refine vx_aload_n (n := 0) (q := 148) (by decide +kernel) rfl ?_
                refine vx_dupR (q := 149) (by decide +kernel) ?_
                refine vx_getI (idx := 480) (kd := 9) (s := 37) (fin := false) (q := 152) (by decide +kernel) (vx_Tk hT74 (by decide +kernel)) ?_
                refine vx_iconst (n := 1) (q := 153) (by decide +kernel) ?_
                refine vx_iadd (q := 154) (by decide +kernel) ?_
                refine vx_putI (idx := 480) (kd := 9) (s := 37) (fin := false) (q := 157) (by decide +kernel) (vx_Tk hT74 (by decide +kernel)) (fun h75 e75 => ?_)
                have hT75 := vx_TJ hT74 e75
                replace H := H h75 e75 hT75
                refine vx_aload_n (n := 0) (q := 158) (by decide +kernel) rfl ?_
                refine vx_aload_n (n := 0) (q := 159) (by decide +kernel) rfl ?_
                refine vx_getI (idx := 474) (kd := 9) (s := 78) (fin := false) (q := 162) (by decide +kernel) (vx_Tk hT75 (by decide +kernel)) ?_
                refine vx_putI (idx := 483) (kd := 9) (s := 38) (fin := false) (q := 165) (by decide +kernel) (vx_Tk hT75 (by decide +kernel)) (fun h76 e76 => ?_)
                have hT76 := vx_TJ hT75 e76
                replace H := H h76 e76 hT76
                refine vx_aload_n (n := 0) (q := 166) (by decide +kernel) rfl ?_
                refine vx_aload_n (n := 0) (q := 167) (by decide +kernel) rfl ?_
                refine vx_getR (b := 642) (idx := 59) (kd := 9) (s := 23) (fin := true) (q := 170) (by decide +kernel) (vx_Tk hT76 (by decide +kernel)) (vx_Tr hT76 (kd := 9) (by decide +kernel) (by decide +kernel) (by decide +kernel)) ?_
                refine vx_bipush (n := 60) (q := 172) (by decide +kernel) ?_
                refine vx_iaload (z := 61) (q := 173) (by decide +kernel) (vx_Tk hT76 (by decide +kernel)) (vx_Tz hT76 (by decide +kernel)) (by decide) ?_
                refine vx_putI (idx := 477) (kd := 9) (s := 39) (fin := false) (q := 176) (by decide +kernel) (vx_Tk hT76 (by decide +kernel)) (fun h77 e77 => ?_)
                have hT77 := vx_TJ hT76 e77
                replace H := H h77 e77 hT77
                refine vx_iconst (n := 0) (q := 177) (by decide +kernel) ?_
                refine vx_istore_n (n := 1) (q := 178) (lv' := [some (.ref 625), some (.int (vx_i 0)), none, none]) (by decide +kernel) rfl ?_
                exact H
              · replace H := H.2 c73
                refine vx_aload_n (n := 0) (q := 137) (by decide +kernel) rfl ?_
                refine vx_iconst (n := 2) (q := 138) (by decide +kernel) ?_
                refine vx_callI (i := .invokevirtual 351) (how := 3) (cm := 20) (np := 2) (q := 141) (args := [.ref 625, .int (vx_i 2)]) (rest := []) (by decide +kernel) rfl rfl rfl (vx_w2 (w := 2) (ml := 2) rfl (by decide +kernel)) (vx_rcv (kd := 9) (vx_Tk hT72 (by decide +kernel)) (by decide +kernel)) H (fun r78 h78 hr78 hs78 H => ?_)
                have hT78 := vx_Tsh hT72 hs78
                replace H := H hT78
                refine vx_retI (q := 142) (by decide +kernel) hr78 ?_
                exact H
            · replace H := H.2 c67
              refine vx_aload_n (n := 0) (q := 95) (by decide +kernel) rfl ?_
              refine vx_iconst (n := 2) (q := 96) (by decide +kernel) ?_
              refine vx_callI (i := .invokevirtual 351) (how := 3) (cm := 20) (np := 2) (q := 99) (args := [.ref 625, .int (vx_i 2)]) (rest := []) (by decide +kernel) rfl rfl rfl (vx_w2 (w := 2) (ml := 2) rfl (by decide +kernel)) (vx_rcv (kd := 9) (vx_Tk hT63 (by decide +kernel)) (by decide +kernel)) H (fun r79 h79 hr79 hs79 H => ?_)
              have hT79 := vx_Tsh hT63 hs79
              replace H := H hT79
              refine vx_retI (q := 100) (by decide +kernel) hr79 ?_
              exact H
        · replace H := H.2 c64
          refine vx_aload_n (n := 0) (q := 71) (by decide +kernel) rfl ?_
          refine vx_iconst (n := 1) (q := 72) (by decide +kernel) ?_
          refine vx_callI (i := .invokevirtual 351) (how := 3) (cm := 20) (np := 2) (q := 75) (args := [.ref 625, .int (vx_i 1)]) (rest := []) (by decide +kernel) rfl rfl rfl (vx_w2 (w := 2) (ml := 2) rfl (by decide +kernel)) (vx_rcv (kd := 9) (vx_Tk hT63 (by decide +kernel)) (by decide +kernel)) H (fun r80 h80 hr80 hs80 H => ?_)
          have hT80 := vx_Tsh hT63 hs80
          replace H := H hT80
          refine vx_retI (q := 76) (by decide +kernel) hr80 ?_
          exact H
theorem vg_94_178 {d : Nat} {h : ve_H} {P : Int → ve_H → Prop} {v1 : Int} {v2 : Option Value} {v3 : Option Value} (hT : vx_T 625 672 h) (H : (vx_rI v1) ∧ (((vx_J h 625 78) ≤ v1 → P (vx_J h 625 78) h) ∧ (v1 < (vx_J h 625 78) → vx_W (d + 1) 94 190 [some (.ref 625), some (.int (vx_i v1)), some (.int (vx_i 0)), some (.int (vx_i 0))] [] h (vx_RI P)))) : vx_W (d + 1) 94 178 [some (.ref 625), some (.int (vx_i v1)), v2, v3] [] h (vx_RI P) := by
  refine vx_iload_n (n := 1) (q := 179) (by decide +kernel) rfl ?_
  refine vx_aload_n (n := 0) (q := 180) (by decide +kernel) rfl ?_
  refine vx_getI (idx := 474) (kd := 9) (s := 78) (fin := false) (q := 183) (by decide +kernel) (vx_Tk hT (by decide +kernel)) ?_
  obtain ⟨k1, H⟩ := H
  refine vx_icmp_ge (off := 82) (q := 186) (t := 265) (by decide +kernel) k1 (vx_rI_J h 625 78) (fun c2 => ?_) (fun c2 => ?_)
  · replace H := H.1 c2
    refine vx_aload_n (n := 0) (q := 266) (by decide +kernel) rfl ?_
    refine vx_getI (idx := 474) (kd := 9) (s := 78) (fin := false) (q := 269) (by decide +kernel) (vx_Tk hT (by decide +kernel)) ?_
    refine vx_retI (q := 270) (by decide +kernel) (vx_rI_J h 625 78) ?_
    exact H
  · replace H := H.2 c2
    refine vx_iconst (n := 0) (q := 187) (by decide +kernel) ?_
    refine vx_istore_n (n := 2) (q := 188) (lv' := [some (.ref 625), some (.int (vx_i v1)), some (.int (vx_i 0)), v3]) (by decide +kernel) rfl ?_
    refine vx_iconst (n := 0) (q := 189) (by decide +kernel) ?_
    refine vx_istore_n (n := 3) (q := 190) (lv' := [some (.ref 625), some (.int (vx_i v1)), some (.int (vx_i 0)), some (.int (vx_i 0))]) (by decide +kernel) rfl ?_
    exact H
theorem vg_94_190 {d : Nat} {h : ve_H} {P : Int → ve_H → Prop} {v1 : Int} {v2 : Int} {v3 : Int} (hT : vx_T 625 672 h) (H : (vx_rI v3) ∧ (((vx_J h 625 78) ≤ v3 → vx_W (d + 1) 94 223 [some (.ref 625), some (.int (vx_i v1)), some (.int (vx_i v2)), some (.int (vx_i 0))] [] h (vx_RI P)) ∧ (v3 < (vx_J h 625 78) → vx_CI d 93 [.ref 625, .int (vx_i v3), .int (vx_i v1)] h (fun r3 h3 => vx_T 625 672 h3 → ((r3 = 0 → vx_W (d + 1) 94 190 [some (.ref 625), some (.int (vx_i v1)), some (.int (vx_i (v2 + 0))), some (.int (vx_i (v3 + 1)))] [] h3 (vx_RI P)) ∧ (r3 ≠ 0 → vx_W (d + 1) 94 190 [some (.ref 625), some (.int (vx_i v1)), some (.int (vx_i (v2 + 1))), some (.int (vx_i (v3 + 1)))] [] h3 (vx_RI P))))))) : vx_W (d + 1) 94 190 [some (.ref 625), some (.int (vx_i v1)), some (.int (vx_i v2)), some (.int (vx_i v3))] [] h (vx_RI P) := by
  refine vx_iload_n (n := 3) (q := 191) (by decide +kernel) rfl ?_
  refine vx_aload_n (n := 0) (q := 192) (by decide +kernel) rfl ?_
  refine vx_getI (idx := 474) (kd := 9) (s := 78) (fin := false) (q := 195) (by decide +kernel) (vx_Tk hT (by decide +kernel)) ?_
  obtain ⟨k1, H⟩ := H
  refine vx_icmp_ge (off := 26) (q := 198) (t := 221) (by decide +kernel) k1 (vx_rI_J h 625 78) (fun c2 => ?_) (fun c2 => ?_)
  · replace H := H.1 c2
    refine vx_iconst (n := 0) (q := 222) (by decide +kernel) ?_
    refine vx_istore_n (n := 3) (q := 223) (lv' := [some (.ref 625), some (.int (vx_i v1)), some (.int (vx_i v2)), some (.int (vx_i 0))]) (by decide +kernel) rfl ?_
    exact H
  · replace H := H.2 c2
    refine vx_iload_n (n := 2) (q := 199) (by decide +kernel) rfl ?_
    refine vx_aload_n (n := 0) (q := 200) (by decide +kernel) rfl ?_
    refine vx_iload_n (n := 3) (q := 201) (by decide +kernel) rfl ?_
    refine vx_iload_n (n := 1) (q := 202) (by decide +kernel) rfl ?_
    refine vx_callI (i := .invokevirtual 486) (how := 3) (cm := 93) (np := 3) (q := 205) (args := [.ref 625, .int (vx_i v3), .int (vx_i v1)]) (rest := [.int (vx_i v2)]) (by decide +kernel) rfl rfl rfl (vx_w2 (w := 3) (ml := 5) rfl (by decide +kernel)) (vx_rcv (kd := 9) (vx_Tk hT (by decide +kernel)) (by decide +kernel)) H (fun r3 h3 hr3 hs3 H => ?_)
    have hT3 := vx_Tsh hT hs3
    replace H := H hT3
    refine vx_if0_eq (off := 7) (q := 208) (t := 212) (by decide +kernel) hr3 (fun c4 => ?_) (fun c4 => ?_)
    · replace H := H.1 c4
      refine vx_iconst (n := 0) (q := 213) (by decide +kernel) ?_
      refine vx_iadd (q := 214) (by decide +kernel) ?_
      refine vx_istore_n (n := 2) (q := 215) (lv' := [some (.ref 625), some (.int (vx_i v1)), some (.int (vx_i (v2 + 0))), some (.int (vx_i v3))]) (by decide +kernel) rfl ?_
      refine vx_iinc (n := 3) (m := 1) (x := v3) (q := 218) (lv' := [some (.ref 625), some (.int (vx_i v1)), some (.int (vx_i (v2 + 0))), some (.int (vx_i (v3 + 1)))]) (by decide +kernel) rfl rfl ?_
      refine vx_goto (off := (-28)) (q := 221) (t := 190) (by decide +kernel) ?_
      exact H
    · replace H := H.2 c4
      refine vx_iconst (n := 1) (q := 209) (by decide +kernel) ?_
      refine vx_goto (off := 4) (q := 212) (t := 213) (by decide +kernel) ?_
      refine vx_iadd (q := 214) (by decide +kernel) ?_
      refine vx_istore_n (n := 2) (q := 215) (lv' := [some (.ref 625), some (.int (vx_i v1)), some (.int (vx_i (v2 + 1))), some (.int (vx_i v3))]) (by decide +kernel) rfl ?_
      refine vx_iinc (n := 3) (m := 1) (x := v3) (q := 218) (lv' := [some (.ref 625), some (.int (vx_i v1)), some (.int (vx_i (v2 + 1))), some (.int (vx_i (v3 + 1)))]) (by decide +kernel) rfl rfl ?_
      refine vx_goto (off := (-28)) (q := 221) (t := 190) (by decide +kernel) ?_
      exact H
theorem vg_94_223 {d : Nat} {h : ve_H} {P : Int → ve_H → Prop} {v1 : Int} {v2 : Int} {v3 : Int} (hT : vx_T 625 672 h) (H : (vx_rI v3) ∧ (((vx_J h 625 39) ≤ v3 → vx_W (d + 1) 94 178 [some (.ref 625), some (.int (vx_i (v1 + 1))), some (.int (vx_i v2)), some (.int (vx_i v3))] [] h (vx_RI P)) ∧ (v3 < (vx_J h 625 39) → (0 ≤ ((8 * v1) + v3) ∧ ((8 * v1) + v3) < 1700) ∧ (0 ≤ ((8 * v2) + v3) ∧ ((8 * v2) + v3) < 1700) ∧ (∀ h5, h5 = vx_sK h 653 ((8 * v2) + v3).toNat (vx_K h 654 ((8 * v1) + v3).toNat) → vx_T 625 672 h5 → vx_W (d + 1) 94 223 [some (.ref 625), some (.int (vx_i v1)), some (.int (vx_i v2)), some (.int (vx_i (v3 + 1)))] [] h5 (vx_RI P))))) : vx_W (d + 1) 94 223 [some (.ref 625), some (.int (vx_i v1)), some (.int (vx_i v2)), some (.int (vx_i v3))] [] h (vx_RI P) := by
  refine vx_iload_n (n := 3) (q := 224) (by decide +kernel) rfl ?_
  refine vx_aload_n (n := 0) (q := 225) (by decide +kernel) rfl ?_
  refine vx_getI (idx := 477) (kd := 9) (s := 39) (fin := false) (q := 228) (by decide +kernel) (vx_Tk hT (by decide +kernel)) ?_
  obtain ⟨k1, H⟩ := H
  refine vx_icmp_ge (off := 31) (q := 231) (t := 259) (by decide +kernel) k1 (vx_rI_J h 625 39) (fun c2 => ?_) (fun c2 => ?_)
  · replace H := H.1 c2
    refine vx_iinc (n := 1) (m := 1) (x := v1) (q := 262) (lv' := [some (.ref 625), some (.int (vx_i (v1 + 1))), some (.int (vx_i v2)), some (.int (vx_i v3))]) (by decide +kernel) rfl rfl ?_
    refine vx_goto (off := (-84)) (q := 265) (t := 178) (by decide +kernel) ?_
    exact H
  · replace H := H.2 c2
    refine vx_aload_n (n := 0) (q := 232) (by decide +kernel) rfl ?_
    refine vx_getR (b := 653) (idx := 96) (kd := 9) (s := 40) (fin := true) (q := 235) (by decide +kernel) (vx_Tk hT (by decide +kernel)) (vx_Tr hT (kd := 9) (by decide +kernel) (by decide +kernel) (by decide +kernel)) ?_
    refine vx_bipush (n := 8) (q := 237) (by decide +kernel) ?_
    refine vx_iload_n (n := 2) (q := 238) (by decide +kernel) rfl ?_
    refine vx_imul (q := 239) (by decide +kernel) ?_
    refine vx_iload_n (n := 3) (q := 240) (by decide +kernel) rfl ?_
    refine vx_iadd (q := 241) (by decide +kernel) ?_
    refine vx_aload_n (n := 0) (q := 242) (by decide +kernel) rfl ?_
    refine vx_getR (b := 654) (idx := 99) (kd := 9) (s := 41) (fin := true) (q := 245) (by decide +kernel) (vx_Tk hT (by decide +kernel)) (vx_Tr hT (kd := 9) (by decide +kernel) (by decide +kernel) (by decide +kernel)) ?_
    refine vx_bipush (n := 8) (q := 247) (by decide +kernel) ?_
    refine vx_iload_n (n := 1) (q := 248) (by decide +kernel) rfl ?_
    refine vx_imul (q := 249) (by decide +kernel) ?_
    refine vx_iload_n (n := 3) (q := 250) (by decide +kernel) rfl ?_
    refine vx_iadd (q := 251) (by decide +kernel) ?_
    obtain ⟨k3, H⟩ := H
    refine vx_laload (z := 1700) (q := 252) (by decide +kernel) (vx_Tk hT (by decide +kernel)) (vx_Tz hT (by decide +kernel)) (vx_ix k3 (by decide)) ?_
    obtain ⟨k4, H⟩ := H
    refine vx_lastore (z := 1700) (q := 253) (by decide +kernel) (vx_Tk hT (by decide +kernel)) (vx_Tz hT (by decide +kernel)) (vx_ix k4 (by decide)) (fun h5 e5 => ?_)
    have hT5 := vx_TK hT e5
    replace H := H h5 e5 hT5
    refine vx_iinc (n := 3) (m := 1) (x := v3) (q := 256) (lv' := [some (.ref 625), some (.int (vx_i v1)), some (.int (vx_i v2)), some (.int (vx_i (v3 + 1)))]) (by decide +kernel) rfl rfl ?_
    refine vx_goto (off := (-33)) (q := 259) (t := 223) (by decide +kernel) ?_
    exact H
-- RuleHouseModel.answer(II)J
theorem vg_95 {d : Nat} {h : ve_H} {P : Int → ve_H → Prop} {x1 : Int} {x2 : Int} (hT : vx_T 625 672 h) (H : (vx_rI x1) ∧ ((x1 < 0 → (∀ h3, h3 = vx_sJ h 625 0 1 → vx_T 625 672 h3 → P 0 h3)) ∧ (0 ≤ x1 → (((vx_J h 625 38) ≤ x1 → (∀ h5, h5 = vx_sJ h 625 0 1 → vx_T 625 672 h5 → P 0 h5)) ∧ (x1 < (vx_J h 625 38) → (vx_rI x2) ∧ ((x2 < 0 → (∀ h8, h8 = vx_sJ h 625 0 1 → vx_T 625 672 h8 → P 0 h8)) ∧ (0 ≤ x2 → ((x2 < (vx_J h 625 39) → (∀ h10, h10 = vx_sJ h 625 0 0 → vx_T 625 672 h10 → (0 ≤ ((8 * x1) + x2) ∧ ((8 * x1) + x2) < 1700) ∧ P (vx_K h10 653 ((8 * x1) + x2).toNat) h10)) ∧ ((vx_J h 625 39) ≤ x2 → (∀ h12, h12 = vx_sJ h 625 0 1 → vx_T 625 672 h12 → P 0 h12)))))))))) : vx_CL d 95 [.ref 625, .int (vx_i x1), .int (vx_i x2)] h P := by
  refine vx_enter (ml := 3) (by decide +kernel) ?_
  show vx_W _ _ 0 [some (.ref 625), some (.int (vx_i x1)), some (.int (vx_i x2))] [] h _
  refine vx_aload_n (n := 0) (q := 1) (by decide +kernel) rfl ?_
  refine vx_iload_n (n := 1) (q := 2) (by decide +kernel) rfl ?_
  obtain ⟨k1, H⟩ := H
  refine vx_if0_lt (off := 23) (q := 5) (t := 25) (by decide +kernel) k1 (fun c2 => ?_) (fun c2 => ?_)
  · replace H := H.1 c2
    refine vx_iconst (n := 1) (q := 26) (by decide +kernel) ?_
    refine vx_goto (off := 4) (q := 29) (t := 30) (by decide +kernel) ?_
    refine vx_putI (idx := 154) (kd := 9) (s := 0) (fin := false) (q := 33) (by decide +kernel) (vx_Tk hT (by decide +kernel)) (fun h3 e3 => ?_)
    have hT3 := vx_TJ hT e3
    replace H := H h3 e3 hT3
    refine vx_aload_n (n := 0) (q := 34) (by decide +kernel) rfl ?_
    refine vx_getI (idx := 154) (kd := 9) (s := 0) (fin := false) (q := 37) (by decide +kernel) (vx_Tk hT3 (by decide +kernel)) ?_
    rw [(vx_Jsm e3 (by decide))]
    refine vx_if0_le (off := 7) (q := 40) (t := 44) (by decide +kernel) (by decide) (fun c => absurd c (by decide)) (fun _ => ?_)
    refine vx_lconst (n := 0) (m := 0) (q := 41) (by decide +kernel) ?_
    refine vx_goto (off := 14) (q := 44) (t := 55) (by decide +kernel) ?_
    refine vx_retL (q := 56) (by decide +kernel) (by decide) ?_
    exact H
  · replace H := H.2 c2
    refine vx_iload_n (n := 1) (q := 6) (by decide +kernel) rfl ?_
    refine vx_aload_n (n := 0) (q := 7) (by decide +kernel) rfl ?_
    refine vx_getI (idx := 483) (kd := 9) (s := 38) (fin := false) (q := 10) (by decide +kernel) (vx_Tk hT (by decide +kernel)) ?_
    refine vx_icmp_ge (off := 15) (q := 13) (t := 25) (by decide +kernel) k1 (vx_rI_J h 625 38) (fun c4 => ?_) (fun c4 => ?_)
    · replace H := H.1 c4
      refine vx_iconst (n := 1) (q := 26) (by decide +kernel) ?_
      refine vx_goto (off := 4) (q := 29) (t := 30) (by decide +kernel) ?_
      refine vx_putI (idx := 154) (kd := 9) (s := 0) (fin := false) (q := 33) (by decide +kernel) (vx_Tk hT (by decide +kernel)) (fun h5 e5 => ?_)
      have hT5 := vx_TJ hT e5
      replace H := H h5 e5 hT5
      refine vx_aload_n (n := 0) (q := 34) (by decide +kernel) rfl ?_
      refine vx_getI (idx := 154) (kd := 9) (s := 0) (fin := false) (q := 37) (by decide +kernel) (vx_Tk hT5 (by decide +kernel)) ?_
      rw [(vx_Jsm e5 (by decide))]
      refine vx_if0_le (off := 7) (q := 40) (t := 44) (by decide +kernel) (by decide) (fun c => absurd c (by decide)) (fun _ => ?_)
      refine vx_lconst (n := 0) (m := 0) (q := 41) (by decide +kernel) ?_
      refine vx_goto (off := 14) (q := 44) (t := 55) (by decide +kernel) ?_
      refine vx_retL (q := 56) (by decide +kernel) (by decide) ?_
      exact H
    · replace H := H.2 c4
      refine vx_iload_n (n := 2) (q := 14) (by decide +kernel) rfl ?_
      obtain ⟨k6, H⟩ := H
      refine vx_if0_lt (off := 11) (q := 17) (t := 25) (by decide +kernel) k6 (fun c7 => ?_) (fun c7 => ?_)
      · replace H := H.1 c7
        refine vx_iconst (n := 1) (q := 26) (by decide +kernel) ?_
        refine vx_goto (off := 4) (q := 29) (t := 30) (by decide +kernel) ?_
        refine vx_putI (idx := 154) (kd := 9) (s := 0) (fin := false) (q := 33) (by decide +kernel) (vx_Tk hT (by decide +kernel)) (fun h8 e8 => ?_)
        have hT8 := vx_TJ hT e8
        replace H := H h8 e8 hT8
        refine vx_aload_n (n := 0) (q := 34) (by decide +kernel) rfl ?_
        refine vx_getI (idx := 154) (kd := 9) (s := 0) (fin := false) (q := 37) (by decide +kernel) (vx_Tk hT8 (by decide +kernel)) ?_
        rw [(vx_Jsm e8 (by decide))]
        refine vx_if0_le (off := 7) (q := 40) (t := 44) (by decide +kernel) (by decide) (fun c => absurd c (by decide)) (fun _ => ?_)
        refine vx_lconst (n := 0) (m := 0) (q := 41) (by decide +kernel) ?_
        refine vx_goto (off := 14) (q := 44) (t := 55) (by decide +kernel) ?_
        refine vx_retL (q := 56) (by decide +kernel) (by decide) ?_
        exact H
      · replace H := H.2 c7
        refine vx_iload_n (n := 2) (q := 18) (by decide +kernel) rfl ?_
        refine vx_aload_n (n := 0) (q := 19) (by decide +kernel) rfl ?_
        refine vx_getI (idx := 477) (kd := 9) (s := 39) (fin := false) (q := 22) (by decide +kernel) (vx_Tk hT (by decide +kernel)) ?_
        refine vx_icmp_lt (off := 7) (q := 25) (t := 29) (by decide +kernel) k6 (vx_rI_J h 625 39) (fun c9 => ?_) (fun c9 => ?_)
        · replace H := H.1 c9
          refine vx_iconst (n := 0) (q := 30) (by decide +kernel) ?_
          refine vx_putI (idx := 154) (kd := 9) (s := 0) (fin := false) (q := 33) (by decide +kernel) (vx_Tk hT (by decide +kernel)) (fun h10 e10 => ?_)
          have hT10 := vx_TJ hT e10
          replace H := H h10 e10 hT10
          refine vx_aload_n (n := 0) (q := 34) (by decide +kernel) rfl ?_
          refine vx_getI (idx := 154) (kd := 9) (s := 0) (fin := false) (q := 37) (by decide +kernel) (vx_Tk hT10 (by decide +kernel)) ?_
          rw [(vx_Jsm e10 (by decide))]
          refine vx_if0_le (off := 7) (q := 40) (t := 44) (by decide +kernel) (by decide) (fun _ => ?_) (fun c => absurd c (by decide))
          refine vx_aload_n (n := 0) (q := 45) (by decide +kernel) rfl ?_
          refine vx_getR (b := 653) (idx := 96) (kd := 9) (s := 40) (fin := true) (q := 48) (by decide +kernel) (vx_Tk hT10 (by decide +kernel)) (vx_Tr hT10 (kd := 9) (by decide +kernel) (by decide +kernel) (by decide +kernel)) ?_
          refine vx_bipush (n := 8) (q := 50) (by decide +kernel) ?_
          refine vx_iload_n (n := 1) (q := 51) (by decide +kernel) rfl ?_
          refine vx_imul (q := 52) (by decide +kernel) ?_
          refine vx_iload_n (n := 2) (q := 53) (by decide +kernel) rfl ?_
          refine vx_iadd (q := 54) (by decide +kernel) ?_
          obtain ⟨k11, H⟩ := H
          refine vx_laload (z := 1700) (q := 55) (by decide +kernel) (vx_Tk hT10 (by decide +kernel)) (vx_Tz hT10 (by decide +kernel)) (vx_ix k11 (by decide)) ?_
          refine vx_retL (q := 56) (by decide +kernel) (vx_rL_K h10 653 ((8 * x1) + x2).toNat) ?_
          exact H
        · replace H := H.2 c9
          refine vx_iconst (n := 1) (q := 26) (by decide +kernel) ?_
          refine vx_goto (off := 4) (q := 29) (t := 30) (by decide +kernel) ?_
          refine vx_putI (idx := 154) (kd := 9) (s := 0) (fin := false) (q := 33) (by decide +kernel) (vx_Tk hT (by decide +kernel)) (fun h12 e12 => ?_)
          have hT12 := vx_TJ hT e12
          replace H := H h12 e12 hT12
          refine vx_aload_n (n := 0) (q := 34) (by decide +kernel) rfl ?_
          refine vx_getI (idx := 154) (kd := 9) (s := 0) (fin := false) (q := 37) (by decide +kernel) (vx_Tk hT12 (by decide +kernel)) ?_
          rw [(vx_Jsm e12 (by decide))]
          refine vx_if0_le (off := 7) (q := 40) (t := 44) (by decide +kernel) (by decide) (fun c => absurd c (by decide)) (fun _ => ?_)
          refine vx_lconst (n := 0) (m := 0) (q := 41) (by decide +kernel) ?_
          refine vx_goto (off := 14) (q := 44) (t := 55) (by decide +kernel) ?_
          refine vx_retL (q := 56) (by decide +kernel) (by decide) ?_
          exact H
-- RuleHouseModel.tuplesOf(I)I
theorem vg_96 {d : Nat} {h : ve_H} {P : Int → ve_H → Prop} {x1 : Int} (hT : vx_T 625 672 h) (H : vx_W d 96 4 [some (.ref 625), some (.int (vx_i x1)), some (.int (vx_i 0)), some (.int (vx_i 0))] [] h (vx_RI P)) : vx_CI d 96 [.ref 625, .int (vx_i x1)] h P := by
  refine vx_enter (ml := 4) (by decide +kernel) ?_
  show vx_W _ _ 0 [some (.ref 625), some (.int (vx_i x1)), none, none] [] h _
  refine vx_iconst (n := 0) (q := 1) (by decide +kernel) ?_
  refine vx_istore_n (n := 2) (q := 2) (lv' := [some (.ref 625), some (.int (vx_i x1)), some (.int (vx_i 0)), none]) (by decide +kernel) rfl ?_
  refine vx_iconst (n := 0) (q := 3) (by decide +kernel) ?_
  refine vx_istore_n (n := 3) (q := 4) (lv' := [some (.ref 625), some (.int (vx_i x1)), some (.int (vx_i 0)), some (.int (vx_i 0))]) (by decide +kernel) rfl ?_
  exact H
theorem vg_96_4 {d : Nat} {h : ve_H} {P : Int → ve_H → Prop} {v1 : Int} {v2 : Int} {v3 : Int} (hT : vx_T 625 672 h) (H : (vx_rI v3) ∧ (((vx_J h 625 32) ≤ v3 → (vx_rI v2) ∧ P v2 h) ∧ (v3 < (vx_J h 625 32) → (((vx_J h 625 31) ≠ 1 → (vx_rI v2) ∧ P v2 h) ∧ ((vx_J h 625 31) = 1 → (0 ≤ v3 ∧ v3 < 260) ∧ (vx_rI v1) ∧ (((vx_J h 650 v3.toNat) ≠ v1 → vx_W d 96 4 [some (.ref 625), some (.int (vx_i v1)), some (.int (vx_i (v2 + 0))), some (.int (vx_i (v3 + 1)))] [] h (vx_RI P)) ∧ ((vx_J h 650 v3.toNat) = v1 → vx_W d 96 4 [some (.ref 625), some (.int (vx_i v1)), some (.int (vx_i (v2 + 1))), some (.int (vx_i (v3 + 1)))] [] h (vx_RI P)))))))) : vx_W d 96 4 [some (.ref 625), some (.int (vx_i v1)), some (.int (vx_i v2)), some (.int (vx_i v3))] [] h (vx_RI P) := by
  refine vx_iload_n (n := 3) (q := 5) (by decide +kernel) rfl ?_
  refine vx_aload_n (n := 0) (q := 6) (by decide +kernel) rfl ?_
  refine vx_getI (idx := 357) (kd := 9) (s := 32) (fin := false) (q := 9) (by decide +kernel) (vx_Tk hT (by decide +kernel)) ?_
  obtain ⟨k1, H⟩ := H
  refine vx_icmp_ge (off := 35) (q := 12) (t := 44) (by decide +kernel) k1 (vx_rI_J h 625 32) (fun c2 => ?_) (fun c2 => ?_)
  · replace H := H.1 c2
    refine vx_iload_n (n := 2) (q := 45) (by decide +kernel) rfl ?_
    obtain ⟨k3, H⟩ := H
    refine vx_retI (q := 46) (by decide +kernel) k3 ?_
    exact H
  · replace H := H.2 c2
    refine vx_aload_n (n := 0) (q := 13) (by decide +kernel) rfl ?_
    refine vx_getI (idx := 83) (kd := 9) (s := 31) (fin := false) (q := 16) (by decide +kernel) (vx_Tk hT (by decide +kernel)) ?_
    refine vx_iconst (n := 1) (q := 17) (by decide +kernel) ?_
    refine vx_icmp_ne (off := 27) (q := 20) (t := 44) (by decide +kernel) (vx_rI_J h 625 31) (by decide) (fun c4 => ?_) (fun c4 => ?_)
    · replace H := H.1 c4
      refine vx_iload_n (n := 2) (q := 45) (by decide +kernel) rfl ?_
      obtain ⟨k5, H⟩ := H
      refine vx_retI (q := 46) (by decide +kernel) k5 ?_
      exact H
    · replace H := H.2 c4
      refine vx_iload_n (n := 2) (q := 21) (by decide +kernel) rfl ?_
      refine vx_aload_n (n := 0) (q := 22) (by decide +kernel) rfl ?_
      refine vx_getR (b := 650) (idx := 87) (kd := 9) (s := 33) (fin := true) (q := 25) (by decide +kernel) (vx_Tk hT (by decide +kernel)) (vx_Tr hT (kd := 9) (by decide +kernel) (by decide +kernel) (by decide +kernel)) ?_
      refine vx_iload_n (n := 3) (q := 26) (by decide +kernel) rfl ?_
      obtain ⟨k6, H⟩ := H
      refine vx_iaload (z := 260) (q := 27) (by decide +kernel) (vx_Tk hT (by decide +kernel)) (vx_Tz hT (by decide +kernel)) (vx_ix k6 (by decide)) ?_
      refine vx_iload_n (n := 1) (q := 28) (by decide +kernel) rfl ?_
      obtain ⟨k7, H⟩ := H
      refine vx_icmp_ne (off := 7) (q := 31) (t := 35) (by decide +kernel) (vx_rI_J h 650 v3.toNat) k7 (fun c8 => ?_) (fun c8 => ?_)
      · replace H := H.1 c8
        refine vx_iconst (n := 0) (q := 36) (by decide +kernel) ?_
        refine vx_iadd (q := 37) (by decide +kernel) ?_
        refine vx_istore_n (n := 2) (q := 38) (lv' := [some (.ref 625), some (.int (vx_i v1)), some (.int (vx_i (v2 + 0))), some (.int (vx_i v3))]) (by decide +kernel) rfl ?_
        refine vx_iinc (n := 3) (m := 1) (x := v3) (q := 41) (lv' := [some (.ref 625), some (.int (vx_i v1)), some (.int (vx_i (v2 + 0))), some (.int (vx_i (v3 + 1)))]) (by decide +kernel) rfl rfl ?_
        refine vx_goto (off := (-37)) (q := 44) (t := 4) (by decide +kernel) ?_
        exact H
      · replace H := H.2 c8
        refine vx_iconst (n := 1) (q := 32) (by decide +kernel) ?_
        refine vx_goto (off := 4) (q := 35) (t := 36) (by decide +kernel) ?_
        refine vx_iadd (q := 37) (by decide +kernel) ?_
        refine vx_istore_n (n := 2) (q := 38) (lv' := [some (.ref 625), some (.int (vx_i v1)), some (.int (vx_i (v2 + 1))), some (.int (vx_i v3))]) (by decide +kernel) rfl ?_
        refine vx_iinc (n := 3) (m := 1) (x := v3) (q := 41) (lv' := [some (.ref 625), some (.int (vx_i v1)), some (.int (vx_i (v2 + 1))), some (.int (vx_i (v3 + 1)))]) (by decide +kernel) rfl rfl ?_
        refine vx_goto (off := (-37)) (q := 44) (t := 4) (by decide +kernel) ?_
        exact H
-- RuleHouseModel.total(I)I
theorem vg_97 {d : Nat} {h : ve_H} {P : Int → ve_H → Prop} {x1 : Int} (hT : vx_T 625 672 h) (H : (∀ h1, h1 = vx_sJ h 625 0 0 → vx_T 625 672 h1 → (vx_rI x1) ∧ ((x1 = 0 → P (vx_J h1 625 39) h1) ∧ (x1 = 1 → P (vx_J h1 625 38) h1) ∧ (x1 = 2 → (0 ≤ (vx_J h1 625 11) ∧ (vx_J h1 625 11) < 2) ∧ P (vx_J h1 631 (vx_J h1 625 11).toNat) h1) ∧ (x1 = 3 → (0 ≤ (vx_J h1 625 11) ∧ (vx_J h1 625 11) < 2) ∧ P (vx_J h1 635 (vx_J h1 625 11).toNat) h1) ∧ (x1 = 4 → (0 ≤ (vx_J h1 625 11) ∧ (vx_J h1 625 11) < 2) ∧ P (vx_J h1 647 (vx_J h1 625 11).toNat) h1) ∧ (x1 = 5 → P (vx_J h1 625 31) h1) ∧ (x1 = 6 → (((vx_J h1 625 31) ≠ 1 → P 0 h1) ∧ ((vx_J h1 625 31) = 1 → P (vx_J h1 625 32) h1))) ∧ (x1 = 7 → vx_CI d 89 [.ref 625] h1 (fun r8 h8 => vx_T 625 672 h8 → P r8 h8)) ∧ (x1 = 8 → P (vx_J h1 625 36) h1) ∧ (x1 ≠ 0 ∧ x1 ≠ 1 ∧ x1 ≠ 2 ∧ x1 ≠ 3 ∧ x1 ≠ 4 ∧ x1 ≠ 5 ∧ x1 ≠ 6 ∧ x1 ≠ 7 ∧ x1 ≠ 8 ∧ True → P ((-1)) h1)))) : vx_CI (d + 1) 97 [.ref 625, .int (vx_i x1)] h P := by
  refine vx_enter (ml := 2) (by decide +kernel) ?_
  show vx_W _ _ 0 [some (.ref 625), some (.int (vx_i x1))] [] h _
  refine vx_aload_n (n := 0) (q := 1) (by decide +kernel) rfl ?_
  refine vx_iconst (n := 0) (q := 2) (by decide +kernel) ?_
  refine vx_putI (idx := 154) (kd := 9) (s := 0) (fin := false) (q := 5) (by decide +kernel) (vx_Tk hT (by decide +kernel)) (fun h1 e1 => ?_)
  have hT1 := vx_TJ hT e1
  replace H := H h1 e1 hT1
  refine vx_iload_n (n := 1) (q := 6) (by decide +kernel) rfl ?_
  obtain ⟨k2, H⟩ := H
  refine vx_tsw (dd := 122) (lo := 0) (hi := 8) (offs := #[50, 55, 60, 70, 80, 90, 95, 112, 117]) (tl := [(0, 56), (1, 61), (2, 66), (3, 76), (4, 86), (5, 96), (6, 101), (7, 118), (8, 123)]) (td := 128) (q := 56) (by decide +kernel) k2 ⟨fun c3 => ?_, fun c3 => ?_, fun c3 => ?_, fun c3 => ?_, fun c3 => ?_, fun c3 => ?_, fun c3 => ?_, fun c3 => ?_, fun c3 => ?_, trivial⟩ (fun c3 => ?_)
  · replace H := H.1 c3
    refine vx_aload_n (n := 0) (q := 57) (by decide +kernel) rfl ?_
    refine vx_getI (idx := 477) (kd := 9) (s := 39) (fin := false) (q := 60) (by decide +kernel) (vx_Tk hT1 (by decide +kernel)) ?_
    refine vx_retI (q := 61) (by decide +kernel) (vx_rI_J h1 625 39) ?_
    exact H
  · replace H := H.2.1 c3
    refine vx_aload_n (n := 0) (q := 62) (by decide +kernel) rfl ?_
    refine vx_getI (idx := 483) (kd := 9) (s := 38) (fin := false) (q := 65) (by decide +kernel) (vx_Tk hT1 (by decide +kernel)) ?_
    refine vx_retI (q := 66) (by decide +kernel) (vx_rI_J h1 625 38) ?_
    exact H
  · replace H := H.2.2.1 c3
    refine vx_aload_n (n := 0) (q := 67) (by decide +kernel) rfl ?_
    refine vx_getR (b := 631) (idx := 26) (kd := 9) (s := 12) (fin := true) (q := 70) (by decide +kernel) (vx_Tk hT1 (by decide +kernel)) (vx_Tr hT1 (kd := 9) (by decide +kernel) (by decide +kernel) (by decide +kernel)) ?_
    refine vx_aload_n (n := 0) (q := 71) (by decide +kernel) rfl ?_
    refine vx_getI (idx := 342) (kd := 9) (s := 11) (fin := false) (q := 74) (by decide +kernel) (vx_Tk hT1 (by decide +kernel)) ?_
    obtain ⟨k4, H⟩ := H
    refine vx_iaload (z := 2) (q := 75) (by decide +kernel) (vx_Tk hT1 (by decide +kernel)) (vx_Tz hT1 (by decide +kernel)) (vx_ix k4 (by decide)) ?_
    refine vx_retI (q := 76) (by decide +kernel) (vx_rI_J h1 631 (vx_J h1 625 11).toNat) ?_
    exact H
  · replace H := H.2.2.2.1 c3
    refine vx_aload_n (n := 0) (q := 77) (by decide +kernel) rfl ?_
    refine vx_getR (b := 635) (idx := 38) (kd := 9) (s := 16) (fin := true) (q := 80) (by decide +kernel) (vx_Tk hT1 (by decide +kernel)) (vx_Tr hT1 (kd := 9) (by decide +kernel) (by decide +kernel) (by decide +kernel)) ?_
    refine vx_aload_n (n := 0) (q := 81) (by decide +kernel) rfl ?_
    refine vx_getI (idx := 342) (kd := 9) (s := 11) (fin := false) (q := 84) (by decide +kernel) (vx_Tk hT1 (by decide +kernel)) ?_
    obtain ⟨k5, H⟩ := H
    refine vx_iaload (z := 2) (q := 85) (by decide +kernel) (vx_Tk hT1 (by decide +kernel)) (vx_Tz hT1 (by decide +kernel)) (vx_ix k5 (by decide)) ?_
    refine vx_retI (q := 86) (by decide +kernel) (vx_rI_J h1 635 (vx_J h1 625 11).toNat) ?_
    exact H
  · replace H := H.2.2.2.2.1 c3
    refine vx_aload_n (n := 0) (q := 87) (by decide +kernel) rfl ?_
    refine vx_getR (b := 647) (idx := 74) (kd := 9) (s := 28) (fin := true) (q := 90) (by decide +kernel) (vx_Tk hT1 (by decide +kernel)) (vx_Tr hT1 (kd := 9) (by decide +kernel) (by decide +kernel) (by decide +kernel)) ?_
    refine vx_aload_n (n := 0) (q := 91) (by decide +kernel) rfl ?_
    refine vx_getI (idx := 342) (kd := 9) (s := 11) (fin := false) (q := 94) (by decide +kernel) (vx_Tk hT1 (by decide +kernel)) ?_
    obtain ⟨k6, H⟩ := H
    refine vx_iaload (z := 2) (q := 95) (by decide +kernel) (vx_Tk hT1 (by decide +kernel)) (vx_Tz hT1 (by decide +kernel)) (vx_ix k6 (by decide)) ?_
    refine vx_retI (q := 96) (by decide +kernel) (vx_rI_J h1 647 (vx_J h1 625 11).toNat) ?_
    exact H
  · replace H := H.2.2.2.2.2.1 c3
    refine vx_aload_n (n := 0) (q := 97) (by decide +kernel) rfl ?_
    refine vx_getI (idx := 83) (kd := 9) (s := 31) (fin := false) (q := 100) (by decide +kernel) (vx_Tk hT1 (by decide +kernel)) ?_
    refine vx_retI (q := 101) (by decide +kernel) (vx_rI_J h1 625 31) ?_
    exact H
  · replace H := H.2.2.2.2.2.2.1 c3
    refine vx_aload_n (n := 0) (q := 102) (by decide +kernel) rfl ?_
    refine vx_getI (idx := 83) (kd := 9) (s := 31) (fin := false) (q := 105) (by decide +kernel) (vx_Tk hT1 (by decide +kernel)) ?_
    refine vx_iconst (n := 1) (q := 106) (by decide +kernel) ?_
    refine vx_icmp_ne (off := 10) (q := 109) (t := 116) (by decide +kernel) (vx_rI_J h1 625 31) (by decide) (fun c7 => ?_) (fun c7 => ?_)
    · replace H := H.1 c7
      refine vx_iconst (n := 0) (q := 117) (by decide +kernel) ?_
      refine vx_retI (q := 118) (by decide +kernel) (by decide) ?_
      exact H
    · replace H := H.2 c7
      refine vx_aload_n (n := 0) (q := 110) (by decide +kernel) rfl ?_
      refine vx_getI (idx := 357) (kd := 9) (s := 32) (fin := false) (q := 113) (by decide +kernel) (vx_Tk hT1 (by decide +kernel)) ?_
      refine vx_goto (off := 4) (q := 116) (t := 117) (by decide +kernel) ?_
      refine vx_retI (q := 118) (by decide +kernel) (vx_rI_J h1 625 32) ?_
      exact H
  · replace H := H.2.2.2.2.2.2.2.1 c3
    refine vx_aload_n (n := 0) (q := 119) (by decide +kernel) rfl ?_
    refine vx_callI (i := .invokevirtual 468) (how := 3) (cm := 89) (np := 1) (q := 122) (args := [.ref 625]) (rest := []) (by decide +kernel) rfl rfl rfl (vx_w2 (w := 1) (ml := 3) rfl (by decide +kernel)) (vx_rcv (kd := 9) (vx_Tk hT1 (by decide +kernel)) (by decide +kernel)) H (fun r8 h8 hr8 hs8 H => ?_)
    have hT8 := vx_Tsh hT1 hs8
    replace H := H hT8
    refine vx_retI (q := 123) (by decide +kernel) hr8 ?_
    exact H
  · replace H := H.2.2.2.2.2.2.2.2.1 c3
    refine vx_aload_n (n := 0) (q := 124) (by decide +kernel) rfl ?_
    refine vx_getI (idx := 465) (kd := 9) (s := 36) (fin := false) (q := 127) (by decide +kernel) (vx_Tk hT1 (by decide +kernel)) ?_
    refine vx_retI (q := 128) (by decide +kernel) (vx_rI_J h1 625 36) ?_
    exact H
  · replace H := H.2.2.2.2.2.2.2.2.2 c3
    refine vx_iconst (n := (-1)) (q := 129) (by decide +kernel) ?_
    refine vx_retI (q := 130) (by decide +kernel) (by decide) ?_
    exact H
-- RuleHouseModel.predicate(II)I
theorem vg_99 {d : Nat} {h : ve_H} {P : Int → ve_H → Prop} {x1 : Int} {x2 : Int} (hT : vx_T 625 672 h) (H : (∀ h1, h1 = vx_sJ h 625 0 0 → vx_T 625 672 h1 → (vx_rI x1) ∧ ((x1 < 0 → P ((-1)) h1) ∧ (0 ≤ x1 → (0 ≤ (vx_J h1 625 11) ∧ (vx_J h1 625 11) < 2) ∧ ((x1 < (vx_J h1 631 (vx_J h1 625 11).toNat) → (0 ≤ ((16 * (vx_J h1 625 11)) + x1) ∧ ((16 * (vx_J h1 625 11)) + x1) < 32) ∧ vx_CI d 98 [.long (vx_l (vx_K h1 632 ((16 * (vx_J h1 625 11)) + x1).toNat))] h1 (fun r7 h7 => vx_T 625 672 h7 → (vx_rI x2) ∧ ((x2 < 100 → ((x2 = 0 → vx_CI d 83 [.ref 625, .int (vx_i x1)] h7 (fun r11 h11 => vx_T 625 672 h11 → P r11 h11)) ∧ (x2 = 1 → (0 ≤ ((16 * (vx_J h7 625 11)) + x1) ∧ ((16 * (vx_J h7 625 11)) + x1) < 32) ∧ P (vx_J h7 634 ((16 * (vx_J h7 625 11)) + x1).toNat) h7) ∧ (x2 = 2 → vx_W (d + 1) 99 154 [some (.ref 625), some (.int (vx_i x1)), some (.int (vx_i x2)), some (.int (vx_i 0)), some (.long (vx_l (vx_K h1 632 ((16 * (vx_J h1 625 11)) + x1).toNat))), none, some (.int (vx_i r7)), some (.int (vx_i (30 * (vx_J h7 625 11))))] [] h7 (vx_RI P)) ∧ (x2 = 3 → vx_W (d + 1) 99 213 [some (.ref 625), some (.int (vx_i x1)), some (.int (vx_i x2)), some (.int (vx_i 0)), some (.long (vx_l (vx_K h1 632 ((16 * (vx_J h1 625 11)) + x1).toNat))), none, some (.int (vx_i r7)), some (.int (vx_i (400 * (vx_J h7 625 11))))] [] h7 (vx_RI P)) ∧ (x2 = 4 → vx_CI d 96 [.ref 625, .int (vx_i x1)] h7 (fun r13 h13 => vx_T 625 672 h13 → P r13 h13)) ∧ (x2 = 5 → P r7 h7) ∧ (x2 ≠ 0 ∧ x2 ≠ 1 ∧ x2 ≠ 2 ∧ x2 ≠ 3 ∧ x2 ≠ 4 ∧ x2 ≠ 5 ∧ True → P ((-1)) h7))) ∧ (100 ≤ x2 → (vx_rI (100 + r7)) ∧ (((100 + r7) ≤ x2 → ((x2 = 0 → vx_CI d 83 [.ref 625, .int (vx_i x1)] h7 (fun r17 h17 => vx_T 625 672 h17 → P r17 h17)) ∧ (x2 = 1 → (0 ≤ ((16 * (vx_J h7 625 11)) + x1) ∧ ((16 * (vx_J h7 625 11)) + x1) < 32) ∧ P (vx_J h7 634 ((16 * (vx_J h7 625 11)) + x1).toNat) h7) ∧ (x2 = 2 → vx_W (d + 1) 99 154 [some (.ref 625), some (.int (vx_i x1)), some (.int (vx_i x2)), some (.int (vx_i 0)), some (.long (vx_l (vx_K h1 632 ((16 * (vx_J h1 625 11)) + x1).toNat))), none, some (.int (vx_i r7)), some (.int (vx_i (30 * (vx_J h7 625 11))))] [] h7 (vx_RI P)) ∧ (x2 = 3 → vx_W (d + 1) 99 213 [some (.ref 625), some (.int (vx_i x1)), some (.int (vx_i x2)), some (.int (vx_i 0)), some (.long (vx_l (vx_K h1 632 ((16 * (vx_J h1 625 11)) + x1).toNat))), none, some (.int (vx_i r7)), some (.int (vx_i (400 * (vx_J h7 625 11))))] [] h7 (vx_RI P)) ∧ (x2 = 4 → vx_CI d 96 [.ref 625, .int (vx_i x1)] h7 (fun r19 h19 => vx_T 625 672 h19 → P r19 h19)) ∧ (x2 = 5 → P r7 h7) ∧ (x2 ≠ 0 ∧ x2 ≠ 1 ∧ x2 ≠ 2 ∧ x2 ≠ 3 ∧ x2 ≠ 4 ∧ x2 ≠ 5 ∧ True → P ((-1)) h7))) ∧ (x2 < (100 + r7) → (vx_rI (vx_land (vx_lshr (vx_K h1 632 ((16 * (vx_J h1 625 11)) + x1).toNat) (8 * (((r7 - 1) - x2) + 100))) 255)) ∧ P (vx_land (vx_lshr (vx_K h1 632 ((16 * (vx_J h1 625 11)) + x1).toNat) (8 * (((r7 - 1) - x2) + 100))) 255) h7)))))) ∧ ((vx_J h1 631 (vx_J h1 625 11).toNat) ≤ x1 → P ((-1)) h1)))))) : vx_CI (d + 1) 99 [.ref 625, .int (vx_i x1), .int (vx_i x2)] h P := by
  refine vx_enter (ml := 8) (by decide +kernel) ?_
  show vx_W _ _ 0 [some (.ref 625), some (.int (vx_i x1)), some (.int (vx_i x2)), none, none, none, none, none] [] h _
  refine vx_aload_n (n := 0) (q := 1) (by decide +kernel) rfl ?_
  refine vx_iconst (n := 0) (q := 2) (by decide +kernel) ?_
  refine vx_putI (idx := 154) (kd := 9) (s := 0) (fin := false) (q := 5) (by decide +kernel) (vx_Tk hT (by decide +kernel)) (fun h1 e1 => ?_)
  have hT1 := vx_TJ hT e1
  replace H := H h1 e1 hT1
  refine vx_iload_n (n := 1) (q := 6) (by decide +kernel) rfl ?_
  obtain ⟨k2, H⟩ := H
  refine vx_if0_lt (off := 16) (q := 9) (t := 22) (by decide +kernel) k2 (fun c3 => ?_) (fun c3 => ?_)
  · replace H := H.1 c3
    refine vx_iconst (n := (-1)) (q := 23) (by decide +kernel) ?_
    refine vx_retI (q := 24) (by decide +kernel) (by decide) ?_
    exact H
  · replace H := H.2 c3
    refine vx_iload_n (n := 1) (q := 10) (by decide +kernel) rfl ?_
    refine vx_aload_n (n := 0) (q := 11) (by decide +kernel) rfl ?_
    refine vx_getR (b := 631) (idx := 26) (kd := 9) (s := 12) (fin := true) (q := 14) (by decide +kernel) (vx_Tk hT1 (by decide +kernel)) (vx_Tr hT1 (kd := 9) (by decide +kernel) (by decide +kernel) (by decide +kernel)) ?_
    refine vx_aload_n (n := 0) (q := 15) (by decide +kernel) rfl ?_
    refine vx_getI (idx := 342) (kd := 9) (s := 11) (fin := false) (q := 18) (by decide +kernel) (vx_Tk hT1 (by decide +kernel)) ?_
    obtain ⟨k4, H⟩ := H
    refine vx_iaload (z := 2) (q := 19) (by decide +kernel) (vx_Tk hT1 (by decide +kernel)) (vx_Tz hT1 (by decide +kernel)) (vx_ix k4 (by decide)) ?_
    refine vx_icmp_lt (off := 5) (q := 22) (t := 24) (by decide +kernel) k2 (vx_rI_J h1 631 (vx_J h1 625 11).toNat) (fun c5 => ?_) (fun c5 => ?_)
    · replace H := H.1 c5
      refine vx_iconst (n := 0) (q := 25) (by decide +kernel) ?_
      refine vx_istore_n (n := 3) (q := 26) (lv' := [some (.ref 625), some (.int (vx_i x1)), some (.int (vx_i x2)), some (.int (vx_i 0)), none, none, none, none]) (by decide +kernel) rfl ?_
      refine vx_aload_n (n := 0) (q := 27) (by decide +kernel) rfl ?_
      refine vx_getR (b := 632) (idx := 29) (kd := 9) (s := 13) (fin := true) (q := 30) (by decide +kernel) (vx_Tk hT1 (by decide +kernel)) (vx_Tr hT1 (kd := 9) (by decide +kernel) (by decide +kernel) (by decide +kernel)) ?_
      refine vx_bipush (n := 16) (q := 32) (by decide +kernel) ?_
      refine vx_aload_n (n := 0) (q := 33) (by decide +kernel) rfl ?_
      refine vx_getI (idx := 342) (kd := 9) (s := 11) (fin := false) (q := 36) (by decide +kernel) (vx_Tk hT1 (by decide +kernel)) ?_
      refine vx_imul (q := 37) (by decide +kernel) ?_
      refine vx_iload_n (n := 1) (q := 38) (by decide +kernel) rfl ?_
      refine vx_iadd (q := 39) (by decide +kernel) ?_
      obtain ⟨k6, H⟩ := H
      refine vx_laload (z := 32) (q := 40) (by decide +kernel) (vx_Tk hT1 (by decide +kernel)) (vx_Tz hT1 (by decide +kernel)) (vx_ix k6 (by decide)) ?_
      refine vx_lstore (n := 4) (q := 42) (lv' := [some (.ref 625), some (.int (vx_i x1)), some (.int (vx_i x2)), some (.int (vx_i 0)), some (.long (vx_l (vx_K h1 632 ((16 * (vx_J h1 625 11)) + x1).toNat))), none, none, none]) (by decide +kernel) rfl ?_
      refine vx_lload (n := 4) (q := 44) (by decide +kernel) rfl ?_
      refine vx_callI (i := .invokestatic 489) (how := 4) (cm := 98) (np := 1) (q := 47) (args := [.long (vx_l (vx_K h1 632 ((16 * (vx_J h1 625 11)) + x1).toNat))]) (rest := []) (by decide +kernel) rfl rfl rfl (vx_w2 (w := 2) (ml := 5) rfl (by decide +kernel)) rfl H (fun r7 h7 hr7 hs7 H => ?_)
      have hT7 := vx_Tsh hT1 hs7
      replace H := H hT7
      refine vx_istore (n := 6) (q := 49) (lv' := [some (.ref 625), some (.int (vx_i x1)), some (.int (vx_i x2)), some (.int (vx_i 0)), some (.long (vx_l (vx_K h1 632 ((16 * (vx_J h1 625 11)) + x1).toNat))), none, some (.int (vx_i r7)), none]) (by decide +kernel) rfl ?_
      refine vx_iload_n (n := 2) (q := 50) (by decide +kernel) rfl ?_
      refine vx_bipush (n := 100) (q := 52) (by decide +kernel) ?_
      obtain ⟨k8, H⟩ := H
      refine vx_icmp_lt (off := 33) (q := 55) (t := 85) (by decide +kernel) k8 (by decide) (fun c9 => ?_) (fun c9 => ?_)
      · replace H := H.1 c9
        refine vx_iload_n (n := 2) (q := 86) (by decide +kernel) rfl ?_
        refine vx_tsw (dd := 186) (lo := 0) (hi := 5) (offs := #[38, 44, 59, 117, 177, 183]) (tl := [(0, 124), (1, 130), (2, 145), (3, 203), (4, 263), (5, 269)]) (td := 272) (q := 124) (by decide +kernel) k8 ⟨fun c10 => ?_, fun c10 => ?_, fun c10 => ?_, fun c10 => ?_, fun c10 => ?_, fun c10 => ?_, trivial⟩ (fun c10 => ?_)
        · replace H := H.1 c10
          refine vx_aload_n (n := 0) (q := 125) (by decide +kernel) rfl ?_
          refine vx_iload_n (n := 1) (q := 126) (by decide +kernel) rfl ?_
          refine vx_callI (i := .invokevirtual 440) (how := 3) (cm := 83) (np := 2) (q := 129) (args := [.ref 625, .int (vx_i x1)]) (rest := []) (by decide +kernel) rfl rfl rfl (vx_w2 (w := 2) (ml := 2) rfl (by decide +kernel)) (vx_rcv (kd := 9) (vx_Tk hT7 (by decide +kernel)) (by decide +kernel)) H (fun r11 h11 hr11 hs11 H => ?_)
          have hT11 := vx_Tsh hT7 hs11
          replace H := H hT11
          refine vx_retI (q := 130) (by decide +kernel) hr11 ?_
          exact H
        · replace H := H.2.1 c10
          refine vx_aload_n (n := 0) (q := 131) (by decide +kernel) rfl ?_
          refine vx_getR (b := 634) (idx := 35) (kd := 9) (s := 15) (fin := true) (q := 134) (by decide +kernel) (vx_Tk hT7 (by decide +kernel)) (vx_Tr hT7 (kd := 9) (by decide +kernel) (by decide +kernel) (by decide +kernel)) ?_
          refine vx_bipush (n := 16) (q := 136) (by decide +kernel) ?_
          refine vx_aload_n (n := 0) (q := 137) (by decide +kernel) rfl ?_
          refine vx_getI (idx := 342) (kd := 9) (s := 11) (fin := false) (q := 140) (by decide +kernel) (vx_Tk hT7 (by decide +kernel)) ?_
          refine vx_imul (q := 141) (by decide +kernel) ?_
          refine vx_iload_n (n := 1) (q := 142) (by decide +kernel) rfl ?_
          refine vx_iadd (q := 143) (by decide +kernel) ?_
          obtain ⟨k12, H⟩ := H
          refine vx_iaload (z := 32) (q := 144) (by decide +kernel) (vx_Tk hT7 (by decide +kernel)) (vx_Tz hT7 (by decide +kernel)) (vx_ix k12 (by decide)) ?_
          refine vx_retI (q := 145) (by decide +kernel) (vx_rI_J h7 634 ((16 * (vx_J h7 625 11)) + x1).toNat) ?_
          exact H
        · replace H := H.2.2.1 c10
          refine vx_bipush (n := 30) (q := 147) (by decide +kernel) ?_
          refine vx_aload_n (n := 0) (q := 148) (by decide +kernel) rfl ?_
          refine vx_getI (idx := 342) (kd := 9) (s := 11) (fin := false) (q := 151) (by decide +kernel) (vx_Tk hT7 (by decide +kernel)) ?_
          refine vx_imul (q := 152) (by decide +kernel) ?_
          refine vx_istore (n := 7) (q := 154) (lv' := [some (.ref 625), some (.int (vx_i x1)), some (.int (vx_i x2)), some (.int (vx_i 0)), some (.long (vx_l (vx_K h1 632 ((16 * (vx_J h1 625 11)) + x1).toNat))), none, some (.int (vx_i r7)), some (.int (vx_i (30 * (vx_J h7 625 11))))]) (by decide +kernel) rfl ?_
          exact H
        · replace H := H.2.2.2.1 c10
          refine vx_sipush (n := 400) (q := 206) (by decide +kernel) ?_
          refine vx_aload_n (n := 0) (q := 207) (by decide +kernel) rfl ?_
          refine vx_getI (idx := 342) (kd := 9) (s := 11) (fin := false) (q := 210) (by decide +kernel) (vx_Tk hT7 (by decide +kernel)) ?_
          refine vx_imul (q := 211) (by decide +kernel) ?_
          refine vx_istore (n := 7) (q := 213) (lv' := [some (.ref 625), some (.int (vx_i x1)), some (.int (vx_i x2)), some (.int (vx_i 0)), some (.long (vx_l (vx_K h1 632 ((16 * (vx_J h1 625 11)) + x1).toNat))), none, some (.int (vx_i r7)), some (.int (vx_i (400 * (vx_J h7 625 11))))]) (by decide +kernel) rfl ?_
          exact H
        · replace H := H.2.2.2.2.1 c10
          refine vx_aload_n (n := 0) (q := 264) (by decide +kernel) rfl ?_
          refine vx_iload_n (n := 1) (q := 265) (by decide +kernel) rfl ?_
          refine vx_callI (i := .invokevirtual 492) (how := 3) (cm := 96) (np := 2) (q := 268) (args := [.ref 625, .int (vx_i x1)]) (rest := []) (by decide +kernel) rfl rfl rfl (vx_w2 (w := 2) (ml := 4) rfl (by decide +kernel)) (vx_rcv (kd := 9) (vx_Tk hT7 (by decide +kernel)) (by decide +kernel)) H (fun r13 h13 hr13 hs13 H => ?_)
          have hT13 := vx_Tsh hT7 hs13
          replace H := H hT13
          refine vx_retI (q := 269) (by decide +kernel) hr13 ?_
          exact H
        · replace H := H.2.2.2.2.2.1 c10
          refine vx_iload (n := 6) (q := 271) (by decide +kernel) rfl ?_
          refine vx_retI (q := 272) (by decide +kernel) hr7 ?_
          exact H
        · replace H := H.2.2.2.2.2.2 c10
          refine vx_iconst (n := (-1)) (q := 273) (by decide +kernel) ?_
          refine vx_retI (q := 274) (by decide +kernel) (by decide) ?_
          exact H
      · replace H := H.2 c9
        refine vx_iload_n (n := 2) (q := 56) (by decide +kernel) rfl ?_
        refine vx_bipush (n := 100) (q := 58) (by decide +kernel) ?_
        refine vx_iload (n := 6) (q := 60) (by decide +kernel) rfl ?_
        refine vx_iadd (q := 61) (by decide +kernel) ?_
        obtain ⟨k14, H⟩ := H
        refine vx_icmp_ge (off := 24) (q := 64) (t := 85) (by decide +kernel) k8 k14 (fun c15 => ?_) (fun c15 => ?_)
        · replace H := H.1 c15
          refine vx_iload_n (n := 2) (q := 86) (by decide +kernel) rfl ?_
          refine vx_tsw (dd := 186) (lo := 0) (hi := 5) (offs := #[38, 44, 59, 117, 177, 183]) (tl := [(0, 124), (1, 130), (2, 145), (3, 203), (4, 263), (5, 269)]) (td := 272) (q := 124) (by decide +kernel) k8 ⟨fun c16 => ?_, fun c16 => ?_, fun c16 => ?_, fun c16 => ?_, fun c16 => ?_, fun c16 => ?_, trivial⟩ (fun c16 => ?_)
          · replace H := H.1 c16
            refine vx_aload_n (n := 0) (q := 125) (by decide +kernel) rfl ?_
            refine vx_iload_n (n := 1) (q := 126) (by decide +kernel) rfl ?_
            refine vx_callI (i := .invokevirtual 440) (how := 3) (cm := 83) (np := 2) (q := 129) (args := [.ref 625, .int (vx_i x1)]) (rest := []) (by decide +kernel) rfl rfl rfl (vx_w2 (w := 2) (ml := 2) rfl (by decide +kernel)) (vx_rcv (kd := 9) (vx_Tk hT7 (by decide +kernel)) (by decide +kernel)) H (fun r17 h17 hr17 hs17 H => ?_)
            have hT17 := vx_Tsh hT7 hs17
            replace H := H hT17
            refine vx_retI (q := 130) (by decide +kernel) hr17 ?_
            exact H
          · replace H := H.2.1 c16
            refine vx_aload_n (n := 0) (q := 131) (by decide +kernel) rfl ?_
            refine vx_getR (b := 634) (idx := 35) (kd := 9) (s := 15) (fin := true) (q := 134) (by decide +kernel) (vx_Tk hT7 (by decide +kernel)) (vx_Tr hT7 (kd := 9) (by decide +kernel) (by decide +kernel) (by decide +kernel)) ?_
            refine vx_bipush (n := 16) (q := 136) (by decide +kernel) ?_
            refine vx_aload_n (n := 0) (q := 137) (by decide +kernel) rfl ?_
            refine vx_getI (idx := 342) (kd := 9) (s := 11) (fin := false) (q := 140) (by decide +kernel) (vx_Tk hT7 (by decide +kernel)) ?_
            refine vx_imul (q := 141) (by decide +kernel) ?_
            refine vx_iload_n (n := 1) (q := 142) (by decide +kernel) rfl ?_
            refine vx_iadd (q := 143) (by decide +kernel) ?_
            obtain ⟨k18, H⟩ := H
            refine vx_iaload (z := 32) (q := 144) (by decide +kernel) (vx_Tk hT7 (by decide +kernel)) (vx_Tz hT7 (by decide +kernel)) (vx_ix k18 (by decide)) ?_
            refine vx_retI (q := 145) (by decide +kernel) (vx_rI_J h7 634 ((16 * (vx_J h7 625 11)) + x1).toNat) ?_
            exact H
          · replace H := H.2.2.1 c16
            refine vx_bipush (n := 30) (q := 147) (by decide +kernel) ?_
            refine vx_aload_n (n := 0) (q := 148) (by decide +kernel) rfl ?_
            refine vx_getI (idx := 342) (kd := 9) (s := 11) (fin := false) (q := 151) (by decide +kernel) (vx_Tk hT7 (by decide +kernel)) ?_
            refine vx_imul (q := 152) (by decide +kernel) ?_
            refine vx_istore (n := 7) (q := 154) (lv' := [some (.ref 625), some (.int (vx_i x1)), some (.int (vx_i x2)), some (.int (vx_i 0)), some (.long (vx_l (vx_K h1 632 ((16 * (vx_J h1 625 11)) + x1).toNat))), none, some (.int (vx_i r7)), some (.int (vx_i (30 * (vx_J h7 625 11))))]) (by decide +kernel) rfl ?_
            exact H
          · replace H := H.2.2.2.1 c16
            refine vx_sipush (n := 400) (q := 206) (by decide +kernel) ?_
            refine vx_aload_n (n := 0) (q := 207) (by decide +kernel) rfl ?_
            refine vx_getI (idx := 342) (kd := 9) (s := 11) (fin := false) (q := 210) (by decide +kernel) (vx_Tk hT7 (by decide +kernel)) ?_
            refine vx_imul (q := 211) (by decide +kernel) ?_
            refine vx_istore (n := 7) (q := 213) (lv' := [some (.ref 625), some (.int (vx_i x1)), some (.int (vx_i x2)), some (.int (vx_i 0)), some (.long (vx_l (vx_K h1 632 ((16 * (vx_J h1 625 11)) + x1).toNat))), none, some (.int (vx_i r7)), some (.int (vx_i (400 * (vx_J h7 625 11))))]) (by decide +kernel) rfl ?_
            exact H
          · replace H := H.2.2.2.2.1 c16
            refine vx_aload_n (n := 0) (q := 264) (by decide +kernel) rfl ?_
            refine vx_iload_n (n := 1) (q := 265) (by decide +kernel) rfl ?_
            refine vx_callI (i := .invokevirtual 492) (how := 3) (cm := 96) (np := 2) (q := 268) (args := [.ref 625, .int (vx_i x1)]) (rest := []) (by decide +kernel) rfl rfl rfl (vx_w2 (w := 2) (ml := 4) rfl (by decide +kernel)) (vx_rcv (kd := 9) (vx_Tk hT7 (by decide +kernel)) (by decide +kernel)) H (fun r19 h19 hr19 hs19 H => ?_)
            have hT19 := vx_Tsh hT7 hs19
            replace H := H hT19
            refine vx_retI (q := 269) (by decide +kernel) hr19 ?_
            exact H
          · replace H := H.2.2.2.2.2.1 c16
            refine vx_iload (n := 6) (q := 271) (by decide +kernel) rfl ?_
            refine vx_retI (q := 272) (by decide +kernel) hr7 ?_
            exact H
          · replace H := H.2.2.2.2.2.2 c16
            refine vx_iconst (n := (-1)) (q := 273) (by decide +kernel) ?_
            refine vx_retI (q := 274) (by decide +kernel) (by decide) ?_
            exact H
        · replace H := H.2 c15
          refine vx_lload (n := 4) (q := 66) (by decide +kernel) rfl ?_
          refine vx_bipush (n := 8) (q := 68) (by decide +kernel) ?_
          refine vx_iload (n := 6) (q := 70) (by decide +kernel) rfl ?_
          refine vx_iconst (n := 1) (q := 71) (by decide +kernel) ?_
          refine vx_isub (q := 72) (by decide +kernel) ?_
          refine vx_iload_n (n := 2) (q := 73) (by decide +kernel) rfl ?_
          refine vx_isub (q := 74) (by decide +kernel) ?_
          refine vx_bipush (n := 100) (q := 76) (by decide +kernel) ?_
          refine vx_iadd (q := 77) (by decide +kernel) ?_
          refine vx_imul (q := 78) (by decide +kernel) ?_
          refine vx_lshr1 (q := 79) (by decide +kernel) ?_
          refine vx_ldc (idx := 160) (v := 255) (m := 255) (q := 82) (by decide +kernel) ?_
          refine vx_land1 (q := 83) (by decide +kernel) ?_
          refine vx_l2i (q := 84) (by decide +kernel) ?_
          obtain ⟨k20, H⟩ := H
          refine vx_retI (q := 85) (by decide +kernel) k20 ?_
          exact H
    · replace H := H.2 c5
      refine vx_iconst (n := (-1)) (q := 23) (by decide +kernel) ?_
      refine vx_retI (q := 24) (by decide +kernel) (by decide) ?_
      exact H
theorem vg_99_154 {d : Nat} {h : ve_H} {P : Int → ve_H → Prop} {v1 : Int} {v2 : Int} {v3 : Int} {v4 : Int} {v6 : Int} {v7 : Int} (hT : vx_T 625 672 h) (H : (0 ≤ (vx_J h 625 11) ∧ (vx_J h 625 11) < 2) ∧ (vx_rI v7) ∧ (vx_rI ((30 * (vx_J h 625 11)) + (vx_J h 635 (vx_J h 625 11).toNat))) ∧ ((((30 * (vx_J h 625 11)) + (vx_J h 635 (vx_J h 625 11).toNat)) ≤ v7 → (vx_rI v3) ∧ P v3 h) ∧ (v7 < ((30 * (vx_J h 625 11)) + (vx_J h 635 (vx_J h 625 11).toNat)) → (0 ≤ v7 ∧ v7 < 61) ∧ (vx_rI v1) ∧ (((vx_J h 636 v7.toNat) ≠ v1 → vx_W (d + 1) 99 154 [some (.ref 625), some (.int (vx_i v1)), some (.int (vx_i v2)), some (.int (vx_i (v3 + 0))), some (.long (vx_l v4)), none, some (.int (vx_i v6)), some (.int (vx_i (v7 + 1)))] [] h (vx_RI P)) ∧ ((vx_J h 636 v7.toNat) = v1 → vx_W (d + 1) 99 154 [some (.ref 625), some (.int (vx_i v1)), some (.int (vx_i v2)), some (.int (vx_i (v3 + 1))), some (.long (vx_l v4)), none, some (.int (vx_i v6)), some (.int (vx_i (v7 + 1)))] [] h (vx_RI P)))))) : vx_W (d + 1) 99 154 [some (.ref 625), some (.int (vx_i v1)), some (.int (vx_i v2)), some (.int (vx_i v3)), some (.long (vx_l v4)), none, some (.int (vx_i v6)), some (.int (vx_i v7))] [] h (vx_RI P) := by
  refine vx_iload (n := 7) (q := 156) (by decide +kernel) rfl ?_
  refine vx_bipush (n := 30) (q := 158) (by decide +kernel) ?_
  refine vx_aload_n (n := 0) (q := 159) (by decide +kernel) rfl ?_
  refine vx_getI (idx := 342) (kd := 9) (s := 11) (fin := false) (q := 162) (by decide +kernel) (vx_Tk hT (by decide +kernel)) ?_
  refine vx_imul (q := 163) (by decide +kernel) ?_
  refine vx_aload_n (n := 0) (q := 164) (by decide +kernel) rfl ?_
  refine vx_getR (b := 635) (idx := 38) (kd := 9) (s := 16) (fin := true) (q := 167) (by decide +kernel) (vx_Tk hT (by decide +kernel)) (vx_Tr hT (kd := 9) (by decide +kernel) (by decide +kernel) (by decide +kernel)) ?_
  refine vx_aload_n (n := 0) (q := 168) (by decide +kernel) rfl ?_
  refine vx_getI (idx := 342) (kd := 9) (s := 11) (fin := false) (q := 171) (by decide +kernel) (vx_Tk hT (by decide +kernel)) ?_
  obtain ⟨k1, H⟩ := H
  refine vx_iaload (z := 2) (q := 172) (by decide +kernel) (vx_Tk hT (by decide +kernel)) (vx_Tz hT (by decide +kernel)) (vx_ix k1 (by decide)) ?_
  refine vx_iadd (q := 173) (by decide +kernel) ?_
  obtain ⟨k2, H⟩ := H
  obtain ⟨k3, H⟩ := H
  refine vx_icmp_ge (off := 28) (q := 176) (t := 201) (by decide +kernel) k2 k3 (fun c4 => ?_) (fun c4 => ?_)
  · replace H := H.1 c4
    refine vx_iload_n (n := 3) (q := 202) (by decide +kernel) rfl ?_
    obtain ⟨k5, H⟩ := H
    refine vx_retI (q := 203) (by decide +kernel) k5 ?_
    exact H
  · replace H := H.2 c4
    refine vx_iload_n (n := 3) (q := 177) (by decide +kernel) rfl ?_
    refine vx_aload_n (n := 0) (q := 178) (by decide +kernel) rfl ?_
    refine vx_getR (b := 636) (idx := 41) (kd := 9) (s := 17) (fin := true) (q := 181) (by decide +kernel) (vx_Tk hT (by decide +kernel)) (vx_Tr hT (kd := 9) (by decide +kernel) (by decide +kernel) (by decide +kernel)) ?_
    refine vx_iload (n := 7) (q := 183) (by decide +kernel) rfl ?_
    obtain ⟨k6, H⟩ := H
    refine vx_iaload (z := 61) (q := 184) (by decide +kernel) (vx_Tk hT (by decide +kernel)) (vx_Tz hT (by decide +kernel)) (vx_ix k6 (by decide)) ?_
    refine vx_iload_n (n := 1) (q := 185) (by decide +kernel) rfl ?_
    obtain ⟨k7, H⟩ := H
    refine vx_icmp_ne (off := 7) (q := 188) (t := 192) (by decide +kernel) (vx_rI_J h 636 v7.toNat) k7 (fun c8 => ?_) (fun c8 => ?_)
    · replace H := H.1 c8
      refine vx_iconst (n := 0) (q := 193) (by decide +kernel) ?_
      refine vx_iadd (q := 194) (by decide +kernel) ?_
      refine vx_istore_n (n := 3) (q := 195) (lv' := [some (.ref 625), some (.int (vx_i v1)), some (.int (vx_i v2)), some (.int (vx_i (v3 + 0))), some (.long (vx_l v4)), none, some (.int (vx_i v6)), some (.int (vx_i v7))]) (by decide +kernel) rfl ?_
      refine vx_iinc (n := 7) (m := 1) (x := v7) (q := 198) (lv' := [some (.ref 625), some (.int (vx_i v1)), some (.int (vx_i v2)), some (.int (vx_i (v3 + 0))), some (.long (vx_l v4)), none, some (.int (vx_i v6)), some (.int (vx_i (v7 + 1)))]) (by decide +kernel) rfl rfl ?_
      refine vx_goto (off := (-44)) (q := 201) (t := 154) (by decide +kernel) ?_
      exact H
    · replace H := H.2 c8
      refine vx_iconst (n := 1) (q := 189) (by decide +kernel) ?_
      refine vx_goto (off := 4) (q := 192) (t := 193) (by decide +kernel) ?_
      refine vx_iadd (q := 194) (by decide +kernel) ?_
      refine vx_istore_n (n := 3) (q := 195) (lv' := [some (.ref 625), some (.int (vx_i v1)), some (.int (vx_i v2)), some (.int (vx_i (v3 + 1))), some (.long (vx_l v4)), none, some (.int (vx_i v6)), some (.int (vx_i v7))]) (by decide +kernel) rfl ?_
      refine vx_iinc (n := 7) (m := 1) (x := v7) (q := 198) (lv' := [some (.ref 625), some (.int (vx_i v1)), some (.int (vx_i v2)), some (.int (vx_i (v3 + 1))), some (.long (vx_l v4)), none, some (.int (vx_i v6)), some (.int (vx_i (v7 + 1)))]) (by decide +kernel) rfl rfl ?_
      refine vx_goto (off := (-44)) (q := 201) (t := 154) (by decide +kernel) ?_
      exact H
theorem vg_99_213 {d : Nat} {h : ve_H} {P : Int → ve_H → Prop} {v1 : Int} {v2 : Int} {v3 : Int} {v4 : Int} {v6 : Int} {v7 : Int} (hT : vx_T 625 672 h) (H : (0 ≤ (vx_J h 625 11) ∧ (vx_J h 625 11) < 2) ∧ (vx_rI v7) ∧ (vx_rI ((400 * (vx_J h 625 11)) + (vx_J h 647 (vx_J h 625 11).toNat))) ∧ ((((400 * (vx_J h 625 11)) + (vx_J h 647 (vx_J h 625 11).toNat)) ≤ v7 → (vx_rI v3) ∧ P v3 h) ∧ (v7 < ((400 * (vx_J h 625 11)) + (vx_J h 647 (vx_J h 625 11).toNat)) → (0 ≤ v7 ∧ v7 < 800) ∧ (vx_rI v1) ∧ (((vx_J h 648 v7.toNat) ≠ v1 → vx_W (d + 1) 99 213 [some (.ref 625), some (.int (vx_i v1)), some (.int (vx_i v2)), some (.int (vx_i (v3 + 0))), some (.long (vx_l v4)), none, some (.int (vx_i v6)), some (.int (vx_i (v7 + 1)))] [] h (vx_RI P)) ∧ ((vx_J h 648 v7.toNat) = v1 → vx_W (d + 1) 99 213 [some (.ref 625), some (.int (vx_i v1)), some (.int (vx_i v2)), some (.int (vx_i (v3 + 1))), some (.long (vx_l v4)), none, some (.int (vx_i v6)), some (.int (vx_i (v7 + 1)))] [] h (vx_RI P)))))) : vx_W (d + 1) 99 213 [some (.ref 625), some (.int (vx_i v1)), some (.int (vx_i v2)), some (.int (vx_i v3)), some (.long (vx_l v4)), none, some (.int (vx_i v6)), some (.int (vx_i v7))] [] h (vx_RI P) := by
  refine vx_iload (n := 7) (q := 215) (by decide +kernel) rfl ?_
  refine vx_sipush (n := 400) (q := 218) (by decide +kernel) ?_
  refine vx_aload_n (n := 0) (q := 219) (by decide +kernel) rfl ?_
  refine vx_getI (idx := 342) (kd := 9) (s := 11) (fin := false) (q := 222) (by decide +kernel) (vx_Tk hT (by decide +kernel)) ?_
  refine vx_imul (q := 223) (by decide +kernel) ?_
  refine vx_aload_n (n := 0) (q := 224) (by decide +kernel) rfl ?_
  refine vx_getR (b := 647) (idx := 74) (kd := 9) (s := 28) (fin := true) (q := 227) (by decide +kernel) (vx_Tk hT (by decide +kernel)) (vx_Tr hT (kd := 9) (by decide +kernel) (by decide +kernel) (by decide +kernel)) ?_
  refine vx_aload_n (n := 0) (q := 228) (by decide +kernel) rfl ?_
  refine vx_getI (idx := 342) (kd := 9) (s := 11) (fin := false) (q := 231) (by decide +kernel) (vx_Tk hT (by decide +kernel)) ?_
  obtain ⟨k1, H⟩ := H
  refine vx_iaload (z := 2) (q := 232) (by decide +kernel) (vx_Tk hT (by decide +kernel)) (vx_Tz hT (by decide +kernel)) (vx_ix k1 (by decide)) ?_
  refine vx_iadd (q := 233) (by decide +kernel) ?_
  obtain ⟨k2, H⟩ := H
  obtain ⟨k3, H⟩ := H
  refine vx_icmp_ge (off := 28) (q := 236) (t := 261) (by decide +kernel) k2 k3 (fun c4 => ?_) (fun c4 => ?_)
  · replace H := H.1 c4
    refine vx_iload_n (n := 3) (q := 262) (by decide +kernel) rfl ?_
    obtain ⟨k5, H⟩ := H
    refine vx_retI (q := 263) (by decide +kernel) k5 ?_
    exact H
  · replace H := H.2 c4
    refine vx_iload_n (n := 3) (q := 237) (by decide +kernel) rfl ?_
    refine vx_aload_n (n := 0) (q := 238) (by decide +kernel) rfl ?_
    refine vx_getR (b := 648) (idx := 77) (kd := 9) (s := 29) (fin := true) (q := 241) (by decide +kernel) (vx_Tk hT (by decide +kernel)) (vx_Tr hT (kd := 9) (by decide +kernel) (by decide +kernel) (by decide +kernel)) ?_
    refine vx_iload (n := 7) (q := 243) (by decide +kernel) rfl ?_
    obtain ⟨k6, H⟩ := H
    refine vx_iaload (z := 800) (q := 244) (by decide +kernel) (vx_Tk hT (by decide +kernel)) (vx_Tz hT (by decide +kernel)) (vx_ix k6 (by decide)) ?_
    refine vx_iload_n (n := 1) (q := 245) (by decide +kernel) rfl ?_
    obtain ⟨k7, H⟩ := H
    refine vx_icmp_ne (off := 7) (q := 248) (t := 252) (by decide +kernel) (vx_rI_J h 648 v7.toNat) k7 (fun c8 => ?_) (fun c8 => ?_)
    · replace H := H.1 c8
      refine vx_iconst (n := 0) (q := 253) (by decide +kernel) ?_
      refine vx_iadd (q := 254) (by decide +kernel) ?_
      refine vx_istore_n (n := 3) (q := 255) (lv' := [some (.ref 625), some (.int (vx_i v1)), some (.int (vx_i v2)), some (.int (vx_i (v3 + 0))), some (.long (vx_l v4)), none, some (.int (vx_i v6)), some (.int (vx_i v7))]) (by decide +kernel) rfl ?_
      refine vx_iinc (n := 7) (m := 1) (x := v7) (q := 258) (lv' := [some (.ref 625), some (.int (vx_i v1)), some (.int (vx_i v2)), some (.int (vx_i (v3 + 0))), some (.long (vx_l v4)), none, some (.int (vx_i v6)), some (.int (vx_i (v7 + 1)))]) (by decide +kernel) rfl rfl ?_
      refine vx_goto (off := (-45)) (q := 261) (t := 213) (by decide +kernel) ?_
      exact H
    · replace H := H.2 c8
      refine vx_iconst (n := 1) (q := 249) (by decide +kernel) ?_
      refine vx_goto (off := 4) (q := 252) (t := 253) (by decide +kernel) ?_
      refine vx_iadd (q := 254) (by decide +kernel) ?_
      refine vx_istore_n (n := 3) (q := 255) (lv' := [some (.ref 625), some (.int (vx_i v1)), some (.int (vx_i v2)), some (.int (vx_i (v3 + 1))), some (.long (vx_l v4)), none, some (.int (vx_i v6)), some (.int (vx_i v7))]) (by decide +kernel) rfl ?_
      refine vx_iinc (n := 7) (m := 1) (x := v7) (q := 258) (lv' := [some (.ref 625), some (.int (vx_i v1)), some (.int (vx_i v2)), some (.int (vx_i (v3 + 1))), some (.long (vx_l v4)), none, some (.int (vx_i v6)), some (.int (vx_i (v7 + 1)))]) (by decide +kernel) rfl rfl ?_
      refine vx_goto (off := (-45)) (q := 261) (t := 213) (by decide +kernel) ?_
      exact H
-- RuleHouseModel.tupleAt(II)I
theorem vg_101 {d : Nat} {h : ve_H} {P : Int → ve_H → Prop} {x1 : Int} {x2 : Int} (hT : vx_T 625 672 h) (H : vx_W (d + 1) 101 2 [some (.ref 625), some (.int (vx_i x1)), some (.int (vx_i x2)), some (.int (vx_i 0)), none, none] [] h (vx_RI P)) : vx_CI (d + 1) 101 [.ref 625, .int (vx_i x1), .int (vx_i x2)] h P := by
  refine vx_enter (ml := 6) (by decide +kernel) ?_
  show vx_W _ _ 0 [some (.ref 625), some (.int (vx_i x1)), some (.int (vx_i x2)), none, none, none] [] h _
  refine vx_iconst (n := 0) (q := 1) (by decide +kernel) ?_
  refine vx_istore_n (n := 3) (q := 2) (lv' := [some (.ref 625), some (.int (vx_i x1)), some (.int (vx_i x2)), some (.int (vx_i 0)), none, none]) (by decide +kernel) rfl ?_
  exact H
theorem vg_101_2 {d : Nat} {h : ve_H} {P : Int → ve_H → Prop} {v1 : Int} {v2 : Int} {v3 : Int} {v4 : Option Value} {v5 : Option Value} (hT : vx_T 625 672 h) (H : (vx_rI v3) ∧ (((vx_J h 625 32) ≤ v3 → P ((-1)) h) ∧ (v3 < (vx_J h 625 32) → (((vx_J h 625 31) ≠ 1 → P ((-1)) h) ∧ ((vx_J h 625 31) = 1 → (0 ≤ v3 ∧ v3 < 260) ∧ (vx_rI v1) ∧ (((vx_J h 650 v3.toNat) = v1 → vx_W (d + 1) 101 37 [some (.ref 625), some (.int (vx_i v1)), some (.int (vx_i v2)), some (.int (vx_i v3)), some (.int (vx_i 0)), some (.int (vx_i 0))] [] h (vx_RI P)) ∧ ((vx_J h 650 v3.toNat) ≠ v1 → vx_W (d + 1) 101 2 [some (.ref 625), some (.int (vx_i v1)), some (.int (vx_i v2)), some (.int (vx_i (v3 + 1))), v4, v5] [] h (vx_RI P)))))))) : vx_W (d + 1) 101 2 [some (.ref 625), some (.int (vx_i v1)), some (.int (vx_i v2)), some (.int (vx_i v3)), v4, v5] [] h (vx_RI P) := by
  refine vx_iload_n (n := 3) (q := 3) (by decide +kernel) rfl ?_
  refine vx_aload_n (n := 0) (q := 4) (by decide +kernel) rfl ?_
  refine vx_getI (idx := 357) (kd := 9) (s := 32) (fin := false) (q := 7) (by decide +kernel) (vx_Tk hT (by decide +kernel)) ?_
  obtain ⟨k1, H⟩ := H
  refine vx_icmp_ge (off := 90) (q := 10) (t := 97) (by decide +kernel) k1 (vx_rI_J h 625 32) (fun c2 => ?_) (fun c2 => ?_)
  · replace H := H.1 c2
    refine vx_iconst (n := (-1)) (q := 98) (by decide +kernel) ?_
    refine vx_retI (q := 99) (by decide +kernel) (by decide) ?_
    exact H
  · replace H := H.2 c2
    refine vx_aload_n (n := 0) (q := 11) (by decide +kernel) rfl ?_
    refine vx_getI (idx := 83) (kd := 9) (s := 31) (fin := false) (q := 14) (by decide +kernel) (vx_Tk hT (by decide +kernel)) ?_
    refine vx_iconst (n := 1) (q := 15) (by decide +kernel) ?_
    refine vx_icmp_ne (off := 82) (q := 18) (t := 97) (by decide +kernel) (vx_rI_J h 625 31) (by decide) (fun c3 => ?_) (fun c3 => ?_)
    · replace H := H.1 c3
      refine vx_iconst (n := (-1)) (q := 98) (by decide +kernel) ?_
      refine vx_retI (q := 99) (by decide +kernel) (by decide) ?_
      exact H
    · replace H := H.2 c3
      refine vx_aload_n (n := 0) (q := 19) (by decide +kernel) rfl ?_
      refine vx_getR (b := 650) (idx := 87) (kd := 9) (s := 33) (fin := true) (q := 22) (by decide +kernel) (vx_Tk hT (by decide +kernel)) (vx_Tr hT (kd := 9) (by decide +kernel) (by decide +kernel) (by decide +kernel)) ?_
      refine vx_iload_n (n := 3) (q := 23) (by decide +kernel) rfl ?_
      obtain ⟨k4, H⟩ := H
      refine vx_iaload (z := 260) (q := 24) (by decide +kernel) (vx_Tk hT (by decide +kernel)) (vx_Tz hT (by decide +kernel)) (vx_ix k4 (by decide)) ?_
      refine vx_iload_n (n := 1) (q := 25) (by decide +kernel) rfl ?_
      obtain ⟨k5, H⟩ := H
      refine vx_icmp_eq (off := 6) (q := 28) (t := 31) (by decide +kernel) (vx_rI_J h 650 v3.toNat) k5 (fun c6 => ?_) (fun c6 => ?_)
      · replace H := H.1 c6
        refine vx_iconst (n := 0) (q := 32) (by decide +kernel) ?_
        refine vx_istore (n := 4) (q := 34) (lv' := [some (.ref 625), some (.int (vx_i v1)), some (.int (vx_i v2)), some (.int (vx_i v3)), some (.int (vx_i 0)), v5]) (by decide +kernel) rfl ?_
        refine vx_iconst (n := 0) (q := 35) (by decide +kernel) ?_
        refine vx_istore (n := 5) (q := 37) (lv' := [some (.ref 625), some (.int (vx_i v1)), some (.int (vx_i v2)), some (.int (vx_i v3)), some (.int (vx_i 0)), some (.int (vx_i 0))]) (by decide +kernel) rfl ?_
        exact H
      · replace H := H.2 c6
        refine vx_goto (off := 63) (q := 31) (t := 91) (by decide +kernel) ?_
        refine vx_iinc (n := 3) (m := 1) (x := v3) (q := 94) (lv' := [some (.ref 625), some (.int (vx_i v1)), some (.int (vx_i v2)), some (.int (vx_i (v3 + 1))), v4, v5]) (by decide +kernel) rfl rfl ?_
        refine vx_goto (off := (-92)) (q := 97) (t := 2) (by decide +kernel) ?_
        exact H
theorem vg_101_37 {d : Nat} {h : ve_H} {P : Int → ve_H → Prop} {v1 : Int} {v2 : Int} {v3 : Int} {v4 : Int} {v5 : Int} (hT : vx_T 625 672 h) (H : (vx_rI v5) ∧ (((vx_J h 625 32) ≤ v5 → (vx_rI v4) ∧ (vx_rI v2) ∧ ((v4 ≠ v2 → vx_W (d + 1) 101 2 [some (.ref 625), some (.int (vx_i v1)), some (.int (vx_i v2)), some (.int (vx_i (v3 + 1))), some (.int (vx_i v4)), some (.int (vx_i v5))] [] h (vx_RI P)) ∧ (v4 = v2 → (vx_rI v3) ∧ P v3 h))) ∧ (v5 < (vx_J h 625 32) → (0 ≤ v5 ∧ v5 < 260) ∧ (vx_rI v1) ∧ (((vx_J h 650 v5.toNat) ≠ v1 → vx_W (d + 1) 101 37 [some (.ref 625), some (.int (vx_i v1)), some (.int (vx_i v2)), some (.int (vx_i v3)), some (.int (vx_i (v4 + 0))), some (.int (vx_i (v5 + 1)))] [] h (vx_RI P)) ∧ ((vx_J h 650 v5.toNat) = v1 → vx_CI d 100 [.ref 625, .int (vx_i v5), .int (vx_i v3)] h (fun r10 h10 => vx_T 625 672 h10 → ((r10 = 0 → vx_W (d + 1) 101 37 [some (.ref 625), some (.int (vx_i v1)), some (.int (vx_i v2)), some (.int (vx_i v3)), some (.int (vx_i (v4 + 0))), some (.int (vx_i (v5 + 1)))] [] h10 (vx_RI P)) ∧ (r10 ≠ 0 → vx_W (d + 1) 101 37 [some (.ref 625), some (.int (vx_i v1)), some (.int (vx_i v2)), some (.int (vx_i v3)), some (.int (vx_i (v4 + 1))), some (.int (vx_i (v5 + 1)))] [] h10 (vx_RI P))))))))) : vx_W (d + 1) 101 37 [some (.ref 625), some (.int (vx_i v1)), some (.int (vx_i v2)), some (.int (vx_i v3)), some (.int (vx_i v4)), some (.int (vx_i v5))] [] h (vx_RI P) := by
  refine vx_iload (n := 5) (q := 39) (by decide +kernel) rfl ?_
  refine vx_aload_n (n := 0) (q := 40) (by decide +kernel) rfl ?_
  refine vx_getI (idx := 357) (kd := 9) (s := 32) (fin := false) (q := 43) (by decide +kernel) (vx_Tk hT (by decide +kernel)) ?_
  obtain ⟨k1, H⟩ := H
  refine vx_icmp_ge (off := 40) (q := 46) (t := 83) (by decide +kernel) k1 (vx_rI_J h 625 32) (fun c2 => ?_) (fun c2 => ?_)
  · replace H := H.1 c2
    refine vx_iload (n := 4) (q := 85) (by decide +kernel) rfl ?_
    refine vx_iload_n (n := 2) (q := 86) (by decide +kernel) rfl ?_
    obtain ⟨k3, H⟩ := H
    obtain ⟨k4, H⟩ := H
    refine vx_icmp_ne (off := 5) (q := 89) (t := 91) (by decide +kernel) k3 k4 (fun c5 => ?_) (fun c5 => ?_)
    · replace H := H.1 c5
      refine vx_iinc (n := 3) (m := 1) (x := v3) (q := 94) (lv' := [some (.ref 625), some (.int (vx_i v1)), some (.int (vx_i v2)), some (.int (vx_i (v3 + 1))), some (.int (vx_i v4)), some (.int (vx_i v5))]) (by decide +kernel) rfl rfl ?_
      refine vx_goto (off := (-92)) (q := 97) (t := 2) (by decide +kernel) ?_
      exact H
    · replace H := H.2 c5
      refine vx_iload_n (n := 3) (q := 90) (by decide +kernel) rfl ?_
      obtain ⟨k6, H⟩ := H
      refine vx_retI (q := 91) (by decide +kernel) k6 ?_
      exact H
  · replace H := H.2 c2
    refine vx_iload (n := 4) (q := 48) (by decide +kernel) rfl ?_
    refine vx_aload_n (n := 0) (q := 49) (by decide +kernel) rfl ?_
    refine vx_getR (b := 650) (idx := 87) (kd := 9) (s := 33) (fin := true) (q := 52) (by decide +kernel) (vx_Tk hT (by decide +kernel)) (vx_Tr hT (kd := 9) (by decide +kernel) (by decide +kernel) (by decide +kernel)) ?_
    refine vx_iload (n := 5) (q := 54) (by decide +kernel) rfl ?_
    obtain ⟨k7, H⟩ := H
    refine vx_iaload (z := 260) (q := 55) (by decide +kernel) (vx_Tk hT (by decide +kernel)) (vx_Tz hT (by decide +kernel)) (vx_ix k7 (by decide)) ?_
    refine vx_iload_n (n := 1) (q := 56) (by decide +kernel) rfl ?_
    obtain ⟨k8, H⟩ := H
    refine vx_icmp_ne (off := 17) (q := 59) (t := 73) (by decide +kernel) (vx_rI_J h 650 v5.toNat) k8 (fun c9 => ?_) (fun c9 => ?_)
    · replace H := H.1 c9
      refine vx_iconst (n := 0) (q := 74) (by decide +kernel) ?_
      refine vx_iadd (q := 75) (by decide +kernel) ?_
      refine vx_istore (n := 4) (q := 77) (lv' := [some (.ref 625), some (.int (vx_i v1)), some (.int (vx_i v2)), some (.int (vx_i v3)), some (.int (vx_i (v4 + 0))), some (.int (vx_i v5))]) (by decide +kernel) rfl ?_
      refine vx_iinc (n := 5) (m := 1) (x := v5) (q := 80) (lv' := [some (.ref 625), some (.int (vx_i v1)), some (.int (vx_i v2)), some (.int (vx_i v3)), some (.int (vx_i (v4 + 0))), some (.int (vx_i (v5 + 1)))]) (by decide +kernel) rfl rfl ?_
      refine vx_goto (off := (-43)) (q := 83) (t := 37) (by decide +kernel) ?_
      exact H
    · replace H := H.2 c9
      refine vx_aload_n (n := 0) (q := 60) (by decide +kernel) rfl ?_
      refine vx_iload (n := 5) (q := 62) (by decide +kernel) rfl ?_
      refine vx_iload_n (n := 3) (q := 63) (by decide +kernel) rfl ?_
      refine vx_callI (i := .invokevirtual 495) (how := 3) (cm := 100) (np := 3) (q := 66) (args := [.ref 625, .int (vx_i v5), .int (vx_i v3)]) (rest := [.int (vx_i v4)]) (by decide +kernel) rfl rfl rfl (vx_w2 (w := 3) (ml := 5) rfl (by decide +kernel)) (vx_rcv (kd := 9) (vx_Tk hT (by decide +kernel)) (by decide +kernel)) H (fun r10 h10 hr10 hs10 H => ?_)
      have hT10 := vx_Tsh hT hs10
      replace H := H hT10
      refine vx_if0_eq (off := 7) (q := 69) (t := 73) (by decide +kernel) hr10 (fun c11 => ?_) (fun c11 => ?_)
      · replace H := H.1 c11
        refine vx_iconst (n := 0) (q := 74) (by decide +kernel) ?_
        refine vx_iadd (q := 75) (by decide +kernel) ?_
        refine vx_istore (n := 4) (q := 77) (lv' := [some (.ref 625), some (.int (vx_i v1)), some (.int (vx_i v2)), some (.int (vx_i v3)), some (.int (vx_i (v4 + 0))), some (.int (vx_i v5))]) (by decide +kernel) rfl ?_
        refine vx_iinc (n := 5) (m := 1) (x := v5) (q := 80) (lv' := [some (.ref 625), some (.int (vx_i v1)), some (.int (vx_i v2)), some (.int (vx_i v3)), some (.int (vx_i (v4 + 0))), some (.int (vx_i (v5 + 1)))]) (by decide +kernel) rfl rfl ?_
        refine vx_goto (off := (-43)) (q := 83) (t := 37) (by decide +kernel) ?_
        exact H
      · replace H := H.2 c11
        refine vx_iconst (n := 1) (q := 70) (by decide +kernel) ?_
        refine vx_goto (off := 4) (q := 73) (t := 74) (by decide +kernel) ?_
        refine vx_iadd (q := 75) (by decide +kernel) ?_
        refine vx_istore (n := 4) (q := 77) (lv' := [some (.ref 625), some (.int (vx_i v1)), some (.int (vx_i v2)), some (.int (vx_i v3)), some (.int (vx_i (v4 + 1))), some (.int (vx_i v5))]) (by decide +kernel) rfl ?_
        refine vx_iinc (n := 5) (m := 1) (x := v5) (q := 80) (lv' := [some (.ref 625), some (.int (vx_i v1)), some (.int (vx_i v2)), some (.int (vx_i v3)), some (.int (vx_i (v4 + 1))), some (.int (vx_i (v5 + 1)))]) (by decide +kernel) rfl rfl ?_
        refine vx_goto (off := (-43)) (q := 83) (t := 37) (by decide +kernel) ?_
        exact H
-- RuleHouseModel.tuple(III)J
theorem vg_102 {d : Nat} {h : ve_H} {P : Int → ve_H → Prop} {x1 : Int} {x2 : Int} {x3 : Int} (hT : vx_T 625 672 h) (H : (vx_rI x1) ∧ ((x1 < 0 → (∀ h3, h3 = vx_sJ h 625 0 1 → vx_T 625 672 h3 → P 0 h3)) ∧ (0 ≤ x1 → (0 ≤ (vx_J h 625 11) ∧ (vx_J h 625 11) < 2) ∧ ((x1 < (vx_J h 631 (vx_J h 625 11).toNat) → vx_CI d 101 [.ref 625, .int (vx_i x1), .int (vx_i x2)] h (fun r6 h6 => vx_T 625 672 h6 → ((r6 = ((-1)) → (∀ h8, h8 = vx_sJ h6 625 0 1 → vx_T 625 672 h8 → P 0 h8)) ∧ (r6 ≠ ((-1)) → (vx_rI x3) ∧ ((x3 < 0 → (∀ h11, h11 = vx_sJ h6 625 0 1 → vx_T 625 672 h11 → P 0 h11)) ∧ (0 ≤ x3 → vx_CI d 83 [.ref 625, .int (vx_i x1)] h6 (fun r12 h12 => vx_T 625 672 h12 → ((x3 < r12 → (∀ h14, h14 = vx_sJ h12 625 0 0 → vx_T 625 672 h14 → (0 ≤ ((4 * r6) + x3) ∧ ((4 * r6) + x3) < 1040) ∧ P (vx_K h14 652 ((4 * r6) + x3).toNat) h14)) ∧ (r12 ≤ x3 → (∀ h16, h16 = vx_sJ h12 625 0 1 → vx_T 625 672 h16 → P 0 h16)))))))))) ∧ ((vx_J h 631 (vx_J h 625 11).toNat) ≤ x1 → (∀ h17, h17 = vx_sJ h 625 0 1 → vx_T 625 672 h17 → P 0 h17)))))) : vx_CL (d + 1) 102 [.ref 625, .int (vx_i x1), .int (vx_i x2), .int (vx_i x3)] h P := by
  refine vx_enter (ml := 5) (by decide +kernel) ?_
  show vx_W _ _ 0 [some (.ref 625), some (.int (vx_i x1)), some (.int (vx_i x2)), some (.int (vx_i x3)), none] [] h _
  refine vx_iload_n (n := 1) (q := 1) (by decide +kernel) rfl ?_
  obtain ⟨k1, H⟩ := H
  refine vx_if0_lt (off := 16) (q := 4) (t := 17) (by decide +kernel) k1 (fun c2 => ?_) (fun c2 => ?_)
  · replace H := H.1 c2
    refine vx_iconst (n := (-1)) (q := 18) (by decide +kernel) ?_
    refine vx_goto (off := 9) (q := 21) (t := 27) (by decide +kernel) ?_
    refine vx_istore (n := 4) (q := 29) (lv' := [some (.ref 625), some (.int (vx_i x1)), some (.int (vx_i x2)), some (.int (vx_i x3)), some (.int (vx_i ((-1))))]) (by decide +kernel) rfl ?_
    refine vx_aload_n (n := 0) (q := 30) (by decide +kernel) rfl ?_
    refine vx_iload (n := 4) (q := 32) (by decide +kernel) rfl ?_
    refine vx_iconst (n := (-1)) (q := 33) (by decide +kernel) ?_
    refine vx_icmp_eq (off := 16) (q := 36) (t := 49) (by decide +kernel) (by decide) (by decide) (fun _ => ?_) (fun c => absurd c (by decide))
    refine vx_iconst (n := 1) (q := 50) (by decide +kernel) ?_
    refine vx_goto (off := 4) (q := 53) (t := 54) (by decide +kernel) ?_
    refine vx_putI (idx := 154) (kd := 9) (s := 0) (fin := false) (q := 57) (by decide +kernel) (vx_Tk hT (by decide +kernel)) (fun h3 e3 => ?_)
    have hT3 := vx_TJ hT e3
    replace H := H h3 e3 hT3
    refine vx_aload_n (n := 0) (q := 58) (by decide +kernel) rfl ?_
    refine vx_getI (idx := 154) (kd := 9) (s := 0) (fin := false) (q := 61) (by decide +kernel) (vx_Tk hT3 (by decide +kernel)) ?_
    rw [(vx_Jsm e3 (by decide))]
    refine vx_if0_le (off := 7) (q := 64) (t := 68) (by decide +kernel) (by decide) (fun c => absurd c (by decide)) (fun _ => ?_)
    refine vx_lconst (n := 0) (m := 0) (q := 65) (by decide +kernel) ?_
    refine vx_goto (off := 14) (q := 68) (t := 79) (by decide +kernel) ?_
    refine vx_retL (q := 80) (by decide +kernel) (by decide) ?_
    exact H
  · replace H := H.2 c2
    refine vx_iload_n (n := 1) (q := 5) (by decide +kernel) rfl ?_
    refine vx_aload_n (n := 0) (q := 6) (by decide +kernel) rfl ?_
    refine vx_getR (b := 631) (idx := 26) (kd := 9) (s := 12) (fin := true) (q := 9) (by decide +kernel) (vx_Tk hT (by decide +kernel)) (vx_Tr hT (kd := 9) (by decide +kernel) (by decide +kernel) (by decide +kernel)) ?_
    refine vx_aload_n (n := 0) (q := 10) (by decide +kernel) rfl ?_
    refine vx_getI (idx := 342) (kd := 9) (s := 11) (fin := false) (q := 13) (by decide +kernel) (vx_Tk hT (by decide +kernel)) ?_
    obtain ⟨k4, H⟩ := H
    refine vx_iaload (z := 2) (q := 14) (by decide +kernel) (vx_Tk hT (by decide +kernel)) (vx_Tz hT (by decide +kernel)) (vx_ix k4 (by decide)) ?_
    refine vx_icmp_lt (off := 7) (q := 17) (t := 21) (by decide +kernel) k1 (vx_rI_J h 631 (vx_J h 625 11).toNat) (fun c5 => ?_) (fun c5 => ?_)
    · replace H := H.1 c5
      refine vx_aload_n (n := 0) (q := 22) (by decide +kernel) rfl ?_
      refine vx_iload_n (n := 1) (q := 23) (by decide +kernel) rfl ?_
      refine vx_iload_n (n := 2) (q := 24) (by decide +kernel) rfl ?_
      refine vx_callI (i := .invokevirtual 498) (how := 3) (cm := 101) (np := 3) (q := 27) (args := [.ref 625, .int (vx_i x1), .int (vx_i x2)]) (rest := []) (by decide +kernel) rfl rfl rfl (vx_w2 (w := 3) (ml := 6) rfl (by decide +kernel)) (vx_rcv (kd := 9) (vx_Tk hT (by decide +kernel)) (by decide +kernel)) H (fun r6 h6 hr6 hs6 H => ?_)
      have hT6 := vx_Tsh hT hs6
      replace H := H hT6
      refine vx_istore (n := 4) (q := 29) (lv' := [some (.ref 625), some (.int (vx_i x1)), some (.int (vx_i x2)), some (.int (vx_i x3)), some (.int (vx_i r6))]) (by decide +kernel) rfl ?_
      refine vx_aload_n (n := 0) (q := 30) (by decide +kernel) rfl ?_
      refine vx_iload (n := 4) (q := 32) (by decide +kernel) rfl ?_
      refine vx_iconst (n := (-1)) (q := 33) (by decide +kernel) ?_
      refine vx_icmp_eq (off := 16) (q := 36) (t := 49) (by decide +kernel) hr6 (by decide) (fun c7 => ?_) (fun c7 => ?_)
      · replace H := H.1 c7
        refine vx_iconst (n := 1) (q := 50) (by decide +kernel) ?_
        refine vx_goto (off := 4) (q := 53) (t := 54) (by decide +kernel) ?_
        refine vx_putI (idx := 154) (kd := 9) (s := 0) (fin := false) (q := 57) (by decide +kernel) (vx_Tk hT6 (by decide +kernel)) (fun h8 e8 => ?_)
        have hT8 := vx_TJ hT6 e8
        replace H := H h8 e8 hT8
        refine vx_aload_n (n := 0) (q := 58) (by decide +kernel) rfl ?_
        refine vx_getI (idx := 154) (kd := 9) (s := 0) (fin := false) (q := 61) (by decide +kernel) (vx_Tk hT8 (by decide +kernel)) ?_
        rw [(vx_Jsm e8 (by decide))]
        refine vx_if0_le (off := 7) (q := 64) (t := 68) (by decide +kernel) (by decide) (fun c => absurd c (by decide)) (fun _ => ?_)
        refine vx_lconst (n := 0) (m := 0) (q := 65) (by decide +kernel) ?_
        refine vx_goto (off := 14) (q := 68) (t := 79) (by decide +kernel) ?_
        refine vx_retL (q := 80) (by decide +kernel) (by decide) ?_
        exact H
      · replace H := H.2 c7
        refine vx_iload_n (n := 3) (q := 37) (by decide +kernel) rfl ?_
        obtain ⟨k9, H⟩ := H
        refine vx_if0_lt (off := 12) (q := 40) (t := 49) (by decide +kernel) k9 (fun c10 => ?_) (fun c10 => ?_)
        · replace H := H.1 c10
          refine vx_iconst (n := 1) (q := 50) (by decide +kernel) ?_
          refine vx_goto (off := 4) (q := 53) (t := 54) (by decide +kernel) ?_
          refine vx_putI (idx := 154) (kd := 9) (s := 0) (fin := false) (q := 57) (by decide +kernel) (vx_Tk hT6 (by decide +kernel)) (fun h11 e11 => ?_)
          have hT11 := vx_TJ hT6 e11
          replace H := H h11 e11 hT11
          refine vx_aload_n (n := 0) (q := 58) (by decide +kernel) rfl ?_
          refine vx_getI (idx := 154) (kd := 9) (s := 0) (fin := false) (q := 61) (by decide +kernel) (vx_Tk hT11 (by decide +kernel)) ?_
          rw [(vx_Jsm e11 (by decide))]
          refine vx_if0_le (off := 7) (q := 64) (t := 68) (by decide +kernel) (by decide) (fun c => absurd c (by decide)) (fun _ => ?_)
          refine vx_lconst (n := 0) (m := 0) (q := 65) (by decide +kernel) ?_
          refine vx_goto (off := 14) (q := 68) (t := 79) (by decide +kernel) ?_
          refine vx_retL (q := 80) (by decide +kernel) (by decide) ?_
          exact H
        · replace H := H.2 c10
          refine vx_iload_n (n := 3) (q := 41) (by decide +kernel) rfl ?_
          refine vx_aload_n (n := 0) (q := 42) (by decide +kernel) rfl ?_
          refine vx_iload_n (n := 1) (q := 43) (by decide +kernel) rfl ?_
          refine vx_callI (i := .invokevirtual 440) (how := 3) (cm := 83) (np := 2) (q := 46) (args := [.ref 625, .int (vx_i x1)]) (rest := [.int (vx_i x3), .ref 625]) (by decide +kernel) rfl rfl rfl (vx_w2 (w := 2) (ml := 2) rfl (by decide +kernel)) (vx_rcv (kd := 9) (vx_Tk hT6 (by decide +kernel)) (by decide +kernel)) H (fun r12 h12 hr12 hs12 H => ?_)
          have hT12 := vx_Tsh hT6 hs12
          replace H := H hT12
          refine vx_icmp_lt (off := 7) (q := 49) (t := 53) (by decide +kernel) k9 hr12 (fun c13 => ?_) (fun c13 => ?_)
          · replace H := H.1 c13
            refine vx_iconst (n := 0) (q := 54) (by decide +kernel) ?_
            refine vx_putI (idx := 154) (kd := 9) (s := 0) (fin := false) (q := 57) (by decide +kernel) (vx_Tk hT12 (by decide +kernel)) (fun h14 e14 => ?_)
            have hT14 := vx_TJ hT12 e14
            replace H := H h14 e14 hT14
            refine vx_aload_n (n := 0) (q := 58) (by decide +kernel) rfl ?_
            refine vx_getI (idx := 154) (kd := 9) (s := 0) (fin := false) (q := 61) (by decide +kernel) (vx_Tk hT14 (by decide +kernel)) ?_
            rw [(vx_Jsm e14 (by decide))]
            refine vx_if0_le (off := 7) (q := 64) (t := 68) (by decide +kernel) (by decide) (fun _ => ?_) (fun c => absurd c (by decide))
            refine vx_aload_n (n := 0) (q := 69) (by decide +kernel) rfl ?_
            refine vx_getR (b := 652) (idx := 93) (kd := 9) (s := 35) (fin := true) (q := 72) (by decide +kernel) (vx_Tk hT14 (by decide +kernel)) (vx_Tr hT14 (kd := 9) (by decide +kernel) (by decide +kernel) (by decide +kernel)) ?_
            refine vx_iconst (n := 4) (q := 73) (by decide +kernel) ?_
            refine vx_iload (n := 4) (q := 75) (by decide +kernel) rfl ?_
            refine vx_imul (q := 76) (by decide +kernel) ?_
            refine vx_iload_n (n := 3) (q := 77) (by decide +kernel) rfl ?_
            refine vx_iadd (q := 78) (by decide +kernel) ?_
            obtain ⟨k15, H⟩ := H
            refine vx_laload (z := 1040) (q := 79) (by decide +kernel) (vx_Tk hT14 (by decide +kernel)) (vx_Tz hT14 (by decide +kernel)) (vx_ix k15 (by decide)) ?_
            refine vx_retL (q := 80) (by decide +kernel) (vx_rL_K h14 652 ((4 * r6) + x3).toNat) ?_
            exact H
          · replace H := H.2 c13
            refine vx_iconst (n := 1) (q := 50) (by decide +kernel) ?_
            refine vx_goto (off := 4) (q := 53) (t := 54) (by decide +kernel) ?_
            refine vx_putI (idx := 154) (kd := 9) (s := 0) (fin := false) (q := 57) (by decide +kernel) (vx_Tk hT12 (by decide +kernel)) (fun h16 e16 => ?_)
            have hT16 := vx_TJ hT12 e16
            replace H := H h16 e16 hT16
            refine vx_aload_n (n := 0) (q := 58) (by decide +kernel) rfl ?_
            refine vx_getI (idx := 154) (kd := 9) (s := 0) (fin := false) (q := 61) (by decide +kernel) (vx_Tk hT16 (by decide +kernel)) ?_
            rw [(vx_Jsm e16 (by decide))]
            refine vx_if0_le (off := 7) (q := 64) (t := 68) (by decide +kernel) (by decide) (fun c => absurd c (by decide)) (fun _ => ?_)
            refine vx_lconst (n := 0) (m := 0) (q := 65) (by decide +kernel) ?_
            refine vx_goto (off := 14) (q := 68) (t := 79) (by decide +kernel) ?_
            refine vx_retL (q := 80) (by decide +kernel) (by decide) ?_
            exact H
    · replace H := H.2 c5
      refine vx_iconst (n := (-1)) (q := 18) (by decide +kernel) ?_
      refine vx_goto (off := 9) (q := 21) (t := 27) (by decide +kernel) ?_
      refine vx_istore (n := 4) (q := 29) (lv' := [some (.ref 625), some (.int (vx_i x1)), some (.int (vx_i x2)), some (.int (vx_i x3)), some (.int (vx_i ((-1))))]) (by decide +kernel) rfl ?_
      refine vx_aload_n (n := 0) (q := 30) (by decide +kernel) rfl ?_
      refine vx_iload (n := 4) (q := 32) (by decide +kernel) rfl ?_
      refine vx_iconst (n := (-1)) (q := 33) (by decide +kernel) ?_
      refine vx_icmp_eq (off := 16) (q := 36) (t := 49) (by decide +kernel) (by decide) (by decide) (fun _ => ?_) (fun c => absurd c (by decide))
      refine vx_iconst (n := 1) (q := 50) (by decide +kernel) ?_
      refine vx_goto (off := 4) (q := 53) (t := 54) (by decide +kernel) ?_
      refine vx_putI (idx := 154) (kd := 9) (s := 0) (fin := false) (q := 57) (by decide +kernel) (vx_Tk hT (by decide +kernel)) (fun h17 e17 => ?_)
      have hT17 := vx_TJ hT e17
      replace H := H h17 e17 hT17
      refine vx_aload_n (n := 0) (q := 58) (by decide +kernel) rfl ?_
      refine vx_getI (idx := 154) (kd := 9) (s := 0) (fin := false) (q := 61) (by decide +kernel) (vx_Tk hT17 (by decide +kernel)) ?_
      rw [(vx_Jsm e17 (by decide))]
      refine vx_if0_le (off := 7) (q := 64) (t := 68) (by decide +kernel) (by decide) (fun c => absurd c (by decide)) (fun _ => ?_)
      refine vx_lconst (n := 0) (m := 0) (q := 65) (by decide +kernel) ?_
      refine vx_goto (off := 14) (q := 68) (t := 79) (by decide +kernel) ?_
      refine vx_retL (q := 80) (by decide +kernel) (by decide) ?_
      exact H
-- RuleHouseModel.round(II)I
theorem vg_103 {d : Nat} {h : ve_H} {P : Int → ve_H → Prop} {x1 : Int} {x2 : Int} (hT : vx_T 625 672 h) (H : (vx_rI x1) ∧ ((x1 < 0 → (∀ h3, h3 = vx_sJ h 625 0 1 → vx_T 625 672 h3 → P 0 h3)) ∧ (0 ≤ x1 → (0 ≤ (vx_J h 625 11) ∧ (vx_J h 625 11) < 2) ∧ ((x1 < (vx_J h 631 (vx_J h 625 11).toNat) → vx_CI d 101 [.ref 625, .int (vx_i x1), .int (vx_i x2)] h (fun r6 h6 => vx_T 625 672 h6 → ((r6 ≠ ((-1)) → (∀ h8, h8 = vx_sJ h6 625 0 0 → vx_T 625 672 h8 → (0 ≤ r6 ∧ r6 < 260) ∧ P (vx_J h8 651 r6.toNat) h8)) ∧ (r6 = ((-1)) → (∀ h10, h10 = vx_sJ h6 625 0 1 → vx_T 625 672 h10 → P 0 h10))))) ∧ ((vx_J h 631 (vx_J h 625 11).toNat) ≤ x1 → (∀ h11, h11 = vx_sJ h 625 0 1 → vx_T 625 672 h11 → P 0 h11)))))) : vx_CI (d + 1) 103 [.ref 625, .int (vx_i x1), .int (vx_i x2)] h P := by
  refine vx_enter (ml := 4) (by decide +kernel) ?_
  show vx_W _ _ 0 [some (.ref 625), some (.int (vx_i x1)), some (.int (vx_i x2)), none] [] h _
  refine vx_iload_n (n := 1) (q := 1) (by decide +kernel) rfl ?_
  obtain ⟨k1, H⟩ := H
  refine vx_if0_lt (off := 16) (q := 4) (t := 17) (by decide +kernel) k1 (fun c2 => ?_) (fun c2 => ?_)
  · replace H := H.1 c2
    refine vx_iconst (n := (-1)) (q := 18) (by decide +kernel) ?_
    refine vx_goto (off := 9) (q := 21) (t := 27) (by decide +kernel) ?_
    refine vx_istore_n (n := 3) (q := 28) (lv' := [some (.ref 625), some (.int (vx_i x1)), some (.int (vx_i x2)), some (.int (vx_i ((-1))))]) (by decide +kernel) rfl ?_
    refine vx_aload_n (n := 0) (q := 29) (by decide +kernel) rfl ?_
    refine vx_iload_n (n := 3) (q := 30) (by decide +kernel) rfl ?_
    refine vx_iconst (n := (-1)) (q := 31) (by decide +kernel) ?_
    refine vx_icmp_ne (off := 7) (q := 34) (t := 38) (by decide +kernel) (by decide) (by decide) (fun c => absurd c (by decide)) (fun _ => ?_)
    refine vx_iconst (n := 1) (q := 35) (by decide +kernel) ?_
    refine vx_goto (off := 4) (q := 38) (t := 39) (by decide +kernel) ?_
    refine vx_putI (idx := 154) (kd := 9) (s := 0) (fin := false) (q := 42) (by decide +kernel) (vx_Tk hT (by decide +kernel)) (fun h3 e3 => ?_)
    have hT3 := vx_TJ hT e3
    replace H := H h3 e3 hT3
    refine vx_aload_n (n := 0) (q := 43) (by decide +kernel) rfl ?_
    refine vx_getI (idx := 154) (kd := 9) (s := 0) (fin := false) (q := 46) (by decide +kernel) (vx_Tk hT3 (by decide +kernel)) ?_
    rw [(vx_Jsm e3 (by decide))]
    refine vx_if0_le (off := 7) (q := 49) (t := 53) (by decide +kernel) (by decide) (fun c => absurd c (by decide)) (fun _ => ?_)
    refine vx_iconst (n := 0) (q := 50) (by decide +kernel) ?_
    refine vx_goto (off := 9) (q := 53) (t := 59) (by decide +kernel) ?_
    refine vx_retI (q := 60) (by decide +kernel) (by decide) ?_
    exact H
  · replace H := H.2 c2
    refine vx_iload_n (n := 1) (q := 5) (by decide +kernel) rfl ?_
    refine vx_aload_n (n := 0) (q := 6) (by decide +kernel) rfl ?_
    refine vx_getR (b := 631) (idx := 26) (kd := 9) (s := 12) (fin := true) (q := 9) (by decide +kernel) (vx_Tk hT (by decide +kernel)) (vx_Tr hT (kd := 9) (by decide +kernel) (by decide +kernel) (by decide +kernel)) ?_
    refine vx_aload_n (n := 0) (q := 10) (by decide +kernel) rfl ?_
    refine vx_getI (idx := 342) (kd := 9) (s := 11) (fin := false) (q := 13) (by decide +kernel) (vx_Tk hT (by decide +kernel)) ?_
    obtain ⟨k4, H⟩ := H
    refine vx_iaload (z := 2) (q := 14) (by decide +kernel) (vx_Tk hT (by decide +kernel)) (vx_Tz hT (by decide +kernel)) (vx_ix k4 (by decide)) ?_
    refine vx_icmp_lt (off := 7) (q := 17) (t := 21) (by decide +kernel) k1 (vx_rI_J h 631 (vx_J h 625 11).toNat) (fun c5 => ?_) (fun c5 => ?_)
    · replace H := H.1 c5
      refine vx_aload_n (n := 0) (q := 22) (by decide +kernel) rfl ?_
      refine vx_iload_n (n := 1) (q := 23) (by decide +kernel) rfl ?_
      refine vx_iload_n (n := 2) (q := 24) (by decide +kernel) rfl ?_
      refine vx_callI (i := .invokevirtual 498) (how := 3) (cm := 101) (np := 3) (q := 27) (args := [.ref 625, .int (vx_i x1), .int (vx_i x2)]) (rest := []) (by decide +kernel) rfl rfl rfl (vx_w2 (w := 3) (ml := 6) rfl (by decide +kernel)) (vx_rcv (kd := 9) (vx_Tk hT (by decide +kernel)) (by decide +kernel)) H (fun r6 h6 hr6 hs6 H => ?_)
      have hT6 := vx_Tsh hT hs6
      replace H := H hT6
      refine vx_istore_n (n := 3) (q := 28) (lv' := [some (.ref 625), some (.int (vx_i x1)), some (.int (vx_i x2)), some (.int (vx_i r6))]) (by decide +kernel) rfl ?_
      refine vx_aload_n (n := 0) (q := 29) (by decide +kernel) rfl ?_
      refine vx_iload_n (n := 3) (q := 30) (by decide +kernel) rfl ?_
      refine vx_iconst (n := (-1)) (q := 31) (by decide +kernel) ?_
      refine vx_icmp_ne (off := 7) (q := 34) (t := 38) (by decide +kernel) hr6 (by decide) (fun c7 => ?_) (fun c7 => ?_)
      · replace H := H.1 c7
        refine vx_iconst (n := 0) (q := 39) (by decide +kernel) ?_
        refine vx_putI (idx := 154) (kd := 9) (s := 0) (fin := false) (q := 42) (by decide +kernel) (vx_Tk hT6 (by decide +kernel)) (fun h8 e8 => ?_)
        have hT8 := vx_TJ hT6 e8
        replace H := H h8 e8 hT8
        refine vx_aload_n (n := 0) (q := 43) (by decide +kernel) rfl ?_
        refine vx_getI (idx := 154) (kd := 9) (s := 0) (fin := false) (q := 46) (by decide +kernel) (vx_Tk hT8 (by decide +kernel)) ?_
        rw [(vx_Jsm e8 (by decide))]
        refine vx_if0_le (off := 7) (q := 49) (t := 53) (by decide +kernel) (by decide) (fun _ => ?_) (fun c => absurd c (by decide))
        refine vx_aload_n (n := 0) (q := 54) (by decide +kernel) rfl ?_
        refine vx_getR (b := 651) (idx := 90) (kd := 9) (s := 34) (fin := true) (q := 57) (by decide +kernel) (vx_Tk hT8 (by decide +kernel)) (vx_Tr hT8 (kd := 9) (by decide +kernel) (by decide +kernel) (by decide +kernel)) ?_
        refine vx_iload_n (n := 3) (q := 58) (by decide +kernel) rfl ?_
        obtain ⟨k9, H⟩ := H
        refine vx_iaload (z := 260) (q := 59) (by decide +kernel) (vx_Tk hT8 (by decide +kernel)) (vx_Tz hT8 (by decide +kernel)) (vx_ix k9 (by decide)) ?_
        refine vx_retI (q := 60) (by decide +kernel) (vx_rI_J h8 651 r6.toNat) ?_
        exact H
      · replace H := H.2 c7
        refine vx_iconst (n := 1) (q := 35) (by decide +kernel) ?_
        refine vx_goto (off := 4) (q := 38) (t := 39) (by decide +kernel) ?_
        refine vx_putI (idx := 154) (kd := 9) (s := 0) (fin := false) (q := 42) (by decide +kernel) (vx_Tk hT6 (by decide +kernel)) (fun h10 e10 => ?_)
        have hT10 := vx_TJ hT6 e10
        replace H := H h10 e10 hT10
        refine vx_aload_n (n := 0) (q := 43) (by decide +kernel) rfl ?_
        refine vx_getI (idx := 154) (kd := 9) (s := 0) (fin := false) (q := 46) (by decide +kernel) (vx_Tk hT10 (by decide +kernel)) ?_
        rw [(vx_Jsm e10 (by decide))]
        refine vx_if0_le (off := 7) (q := 49) (t := 53) (by decide +kernel) (by decide) (fun c => absurd c (by decide)) (fun _ => ?_)
        refine vx_iconst (n := 0) (q := 50) (by decide +kernel) ?_
        refine vx_goto (off := 9) (q := 53) (t := 59) (by decide +kernel) ?_
        refine vx_retI (q := 60) (by decide +kernel) (by decide) ?_
        exact H
    · replace H := H.2 c5
      refine vx_iconst (n := (-1)) (q := 18) (by decide +kernel) ?_
      refine vx_goto (off := 9) (q := 21) (t := 27) (by decide +kernel) ?_
      refine vx_istore_n (n := 3) (q := 28) (lv' := [some (.ref 625), some (.int (vx_i x1)), some (.int (vx_i x2)), some (.int (vx_i ((-1))))]) (by decide +kernel) rfl ?_
      refine vx_aload_n (n := 0) (q := 29) (by decide +kernel) rfl ?_
      refine vx_iload_n (n := 3) (q := 30) (by decide +kernel) rfl ?_
      refine vx_iconst (n := (-1)) (q := 31) (by decide +kernel) ?_
      refine vx_icmp_ne (off := 7) (q := 34) (t := 38) (by decide +kernel) (by decide) (by decide) (fun c => absurd c (by decide)) (fun _ => ?_)
      refine vx_iconst (n := 1) (q := 35) (by decide +kernel) ?_
      refine vx_goto (off := 4) (q := 38) (t := 39) (by decide +kernel) ?_
      refine vx_putI (idx := 154) (kd := 9) (s := 0) (fin := false) (q := 42) (by decide +kernel) (vx_Tk hT (by decide +kernel)) (fun h11 e11 => ?_)
      have hT11 := vx_TJ hT e11
      replace H := H h11 e11 hT11
      refine vx_aload_n (n := 0) (q := 43) (by decide +kernel) rfl ?_
      refine vx_getI (idx := 154) (kd := 9) (s := 0) (fin := false) (q := 46) (by decide +kernel) (vx_Tk hT11 (by decide +kernel)) ?_
      rw [(vx_Jsm e11 (by decide))]
      refine vx_if0_le (off := 7) (q := 49) (t := 53) (by decide +kernel) (by decide) (fun c => absurd c (by decide)) (fun _ => ?_)
      refine vx_iconst (n := 0) (q := 50) (by decide +kernel) ?_
      refine vx_goto (off := 9) (q := 53) (t := 59) (by decide +kernel) ?_
      refine vx_retI (q := 60) (by decide +kernel) (by decide) ?_
      exact H
-- RuleHouse$Tape.append(JI)Z
theorem vg_192 {d : Nat} {h : ve_H} {P : Int → ve_H → Prop} {x1 : Int} {x2 : Int} (hT : vx_T 1 625 h) (H : (vx_rI x2) ∧ ((x2 < 1 → P 0 h) ∧ (1 ≤ x2 → ((8 < x2 → P 0 h) ∧ (x2 ≤ 8 → (vx_rI ((vx_J h 2 4) + x2)) ∧ ((((vx_J h 2 4) + x2) ≤ 600 → vx_W d 192 28 [some (.ref 2), some (.long (vx_l x1)), none, some (.int (vx_i x2)), some (.int (vx_i 0)), none] [] h (vx_RI P)) ∧ (600 < ((vx_J h 2 4) + x2) → P 0 h))))))) : vx_CI d 192 [.ref 2, .long (vx_l x1), .int (vx_i x2)] h P := by
  refine vx_enter (ml := 6) (by decide +kernel) ?_
  show vx_W _ _ 0 [some (.ref 2), some (.long (vx_l x1)), none, some (.int (vx_i x2)), none, none] [] h _
  refine vx_iload_n (n := 3) (q := 1) (by decide +kernel) rfl ?_
  refine vx_iconst (n := 1) (q := 2) (by decide +kernel) ?_
  obtain ⟨k1, H⟩ := H
  refine vx_icmp_lt (off := 21) (q := 5) (t := 23) (by decide +kernel) k1 (by decide) (fun c2 => ?_) (fun c2 => ?_)
  · replace H := H.1 c2
    refine vx_iconst (n := 0) (q := 24) (by decide +kernel) ?_
    refine vx_retZ (q := 25) (by decide +kernel) (Or.inl rfl) ?_
    exact H
  · replace H := H.2 c2
    refine vx_iload_n (n := 3) (q := 6) (by decide +kernel) rfl ?_
    refine vx_bipush (n := 8) (q := 8) (by decide +kernel) ?_
    refine vx_icmp_gt (off := 15) (q := 11) (t := 23) (by decide +kernel) k1 (by decide) (fun c3 => ?_) (fun c3 => ?_)
    · replace H := H.1 c3
      refine vx_iconst (n := 0) (q := 24) (by decide +kernel) ?_
      refine vx_retZ (q := 25) (by decide +kernel) (Or.inl rfl) ?_
      exact H
    · replace H := H.2 c3
      refine vx_aload_n (n := 0) (q := 12) (by decide +kernel) rfl ?_
      refine vx_getI (idx := 26) (kd := 2) (s := 4) (fin := false) (q := 15) (by decide +kernel) (vx_Tk hT (by decide +kernel)) ?_
      refine vx_iload_n (n := 3) (q := 16) (by decide +kernel) rfl ?_
      refine vx_iadd (q := 17) (by decide +kernel) ?_
      refine vx_sipush (n := 600) (q := 20) (by decide +kernel) ?_
      obtain ⟨k4, H⟩ := H
      refine vx_icmp_le (off := 5) (q := 23) (t := 25) (by decide +kernel) k4 (by decide) (fun c5 => ?_) (fun c5 => ?_)
      · replace H := H.1 c5
        refine vx_iconst (n := 0) (q := 26) (by decide +kernel) ?_
        refine vx_istore (n := 4) (q := 28) (lv' := [some (.ref 2), some (.long (vx_l x1)), none, some (.int (vx_i x2)), some (.int (vx_i 0)), none]) (by decide +kernel) rfl ?_
        exact H
      · replace H := H.2 c5
        refine vx_iconst (n := 0) (q := 24) (by decide +kernel) ?_
        refine vx_retZ (q := 25) (by decide +kernel) (Or.inl rfl) ?_
        exact H
theorem vg_192_28 {d : Nat} {h : ve_H} {P : Int → ve_H → Prop} {v1 : Int} {v3 : Int} {v4 : Int} {v5 : Option Value} (hT : vx_T 1 625 h) (H : (vx_rI v4) ∧ (vx_rI v3) ∧ ((v3 ≤ v4 → (∀ h4, h4 = vx_sJ h 2 4 ((vx_J h 2 4) + v3) → vx_T 1 625 h4 → P 1 h4)) ∧ (v4 < v3 → (((vx_and (vx_lushr v1 (8 * ((v3 - 1) - v4))) 255) < 32 → P 0 h) ∧ (32 ≤ (vx_and (vx_lushr v1 (8 * ((v3 - 1) - v4))) 255) → (((vx_and (vx_lushr v1 (8 * ((v3 - 1) - v4))) 255) ≤ 126 → (-128 ≤ vx_and (vx_lushr v1 (8 * ((v3 - 1) - v4))) 255 ∧ vx_and (vx_lushr v1 (8 * ((v3 - 1) - v4))) 255 < 128) ∧ (0 ≤ ((vx_J h 2 4) + v4) ∧ ((vx_J h 2 4) + v4) < 600) ∧ (-128 ≤ (vx_and (vx_lushr v1 (8 * ((v3 - 1) - v4))) 255) ∧ (vx_and (vx_lushr v1 (8 * ((v3 - 1) - v4))) 255) < 128) ∧ (∀ h10, h10 = vx_sJ h 3 ((vx_J h 2 4) + v4).toNat (vx_and (vx_lushr v1 (8 * ((v3 - 1) - v4))) 255) → vx_T 1 625 h10 → vx_W d 192 28 [some (.ref 2), some (.long (vx_l v1)), none, some (.int (vx_i v3)), some (.int (vx_i (v4 + 1))), some (.int (vx_i (vx_and (vx_lushr v1 (8 * ((v3 - 1) - v4))) 255)))] [] h10 (vx_RI P))) ∧ (126 < (vx_and (vx_lushr v1 (8 * ((v3 - 1) - v4))) 255) → P 0 h))))))) : vx_W d 192 28 [some (.ref 2), some (.long (vx_l v1)), none, some (.int (vx_i v3)), some (.int (vx_i v4)), v5] [] h (vx_RI P) := by
  refine vx_iload (n := 4) (q := 30) (by decide +kernel) rfl ?_
  refine vx_iload_n (n := 3) (q := 31) (by decide +kernel) rfl ?_
  obtain ⟨k1, H⟩ := H
  obtain ⟨k2, H⟩ := H
  refine vx_icmp_ge (off := 58) (q := 34) (t := 89) (by decide +kernel) k1 k2 (fun c3 => ?_) (fun c3 => ?_)
  · replace H := H.1 c3
    refine vx_aload_n (n := 0) (q := 90) (by decide +kernel) rfl ?_
    refine vx_dupR (q := 91) (by decide +kernel) ?_
    refine vx_getI (idx := 26) (kd := 2) (s := 4) (fin := false) (q := 94) (by decide +kernel) (vx_Tk hT (by decide +kernel)) ?_
    refine vx_iload_n (n := 3) (q := 95) (by decide +kernel) rfl ?_
    refine vx_iadd (q := 96) (by decide +kernel) ?_
    refine vx_putI (idx := 26) (kd := 2) (s := 4) (fin := false) (q := 99) (by decide +kernel) (vx_Tk hT (by decide +kernel)) (fun h4 e4 => ?_)
    have hT4 := vx_TJ hT e4
    replace H := H h4 e4 hT4
    refine vx_iconst (n := 1) (q := 100) (by decide +kernel) ?_
    refine vx_retZ (q := 101) (by decide +kernel) (Or.inr rfl) ?_
    exact H
  · replace H := H.2 c3
    refine vx_lload_n (n := 1) (q := 35) (by decide +kernel) rfl ?_
    refine vx_bipush (n := 8) (q := 37) (by decide +kernel) ?_
    refine vx_iload_n (n := 3) (q := 38) (by decide +kernel) rfl ?_
    refine vx_iconst (n := 1) (q := 39) (by decide +kernel) ?_
    refine vx_isub (q := 40) (by decide +kernel) ?_
    refine vx_iload (n := 4) (q := 42) (by decide +kernel) rfl ?_
    refine vx_isub (q := 43) (by decide +kernel) ?_
    refine vx_imul (q := 44) (by decide +kernel) ?_
    refine vx_lushr1 (q := 45) (by decide +kernel) ?_
    refine vx_l2i (q := 46) (by decide +kernel) ?_
    refine vx_sipush (n := 255) (q := 49) (by decide +kernel) ?_
    refine vx_iand (q := 50) (by decide +kernel) ?_
    refine vx_istore (n := 5) (q := 52) (lv' := [some (.ref 2), some (.long (vx_l v1)), none, some (.int (vx_i v3)), some (.int (vx_i v4)), some (.int (vx_i (vx_and (vx_lushr v1 (8 * ((v3 - 1) - v4))) 255)))]) (by decide +kernel) rfl ?_
    refine vx_iload (n := 5) (q := 54) (by decide +kernel) rfl ?_
    refine vx_bipush (n := 32) (q := 56) (by decide +kernel) ?_
    refine vx_icmp_lt (off := 10) (q := 59) (t := 66) (by decide +kernel) (vx_rI_toInt _) (by decide) (fun c5 => ?_) (fun c5 => ?_)
    · replace H := H.1 c5
      refine vx_iconst (n := 0) (q := 67) (by decide +kernel) ?_
      refine vx_retZ (q := 68) (by decide +kernel) (Or.inl rfl) ?_
      exact H
    · replace H := H.2 c5
      refine vx_iload (n := 5) (q := 61) (by decide +kernel) rfl ?_
      refine vx_bipush (n := 126) (q := 63) (by decide +kernel) ?_
      refine vx_icmp_le (off := 5) (q := 66) (t := 68) (by decide +kernel) (vx_rI_toInt _) (by decide) (fun c6 => ?_) (fun c6 => ?_)
      · replace H := H.1 c6
        refine vx_aload_n (n := 0) (q := 69) (by decide +kernel) rfl ?_
        refine vx_getR (b := 3) (idx := 9) (kd := 2) (s := 0) (fin := true) (q := 72) (by decide +kernel) (vx_Tk hT (by decide +kernel)) (vx_Tr hT (kd := 2) (by decide +kernel) (by decide +kernel) (by decide +kernel)) ?_
        refine vx_aload_n (n := 0) (q := 73) (by decide +kernel) rfl ?_
        refine vx_getI (idx := 26) (kd := 2) (s := 4) (fin := false) (q := 76) (by decide +kernel) (vx_Tk hT (by decide +kernel)) ?_
        refine vx_iload (n := 4) (q := 78) (by decide +kernel) rfl ?_
        refine vx_iadd (q := 79) (by decide +kernel) ?_
        refine vx_iload (n := 5) (q := 81) (by decide +kernel) rfl ?_
        obtain ⟨k7, H⟩ := H
        refine vx_i2b (q := 82) (by decide +kernel) k7 ?_
        obtain ⟨k8, H⟩ := H
        obtain ⟨k9, H⟩ := H
        refine vx_bastore (z := 600) (q := 83) (by decide +kernel) (vx_Tk hT (by decide +kernel)) (vx_Tz hT (by decide +kernel)) (vx_ix k8 (by decide)) k9 (fun h10 e10 => ?_)
        have hT10 := vx_TJ hT e10
        replace H := H h10 e10 hT10
        refine vx_iinc (n := 4) (m := 1) (x := v4) (q := 86) (lv' := [some (.ref 2), some (.long (vx_l v1)), none, some (.int (vx_i v3)), some (.int (vx_i (v4 + 1))), some (.int (vx_i (vx_and (vx_lushr v1 (8 * ((v3 - 1) - v4))) 255)))]) (by decide +kernel) rfl rfl ?_
        refine vx_goto (off := (-58)) (q := 89) (t := 28) (by decide +kernel) ?_
        exact H
      · replace H := H.2 c6
        refine vx_iconst (n := 0) (q := 67) (by decide +kernel) ?_
        refine vx_retZ (q := 68) (by decide +kernel) (Or.inl rfl) ?_
        exact H
-- RuleHouse$Tape.clear()V
theorem vg_193 {d : Nat} {h : ve_H} {P : ve_H → Prop}  (hT : vx_T 1 625 h) (H : (∀ h1, h1 = vx_sJ h 2 4 0 → vx_T 1 625 h1 → P h1)) : vx_CV d 193 [.ref 2] h P := by
  refine vx_enter (ml := 1) (by decide +kernel) ?_
  show vx_W _ _ 0 [some (.ref 2)] [] h _
  refine vx_aload_n (n := 0) (q := 1) (by decide +kernel) rfl ?_
  refine vx_iconst (n := 0) (q := 2) (by decide +kernel) ?_
  refine vx_putI (idx := 26) (kd := 2) (s := 4) (fin := false) (q := 5) (by decide +kernel) (vx_Tk hT (by decide +kernel)) (fun h1 e1 => ?_)
  have hT1 := vx_TJ hT e1
  replace H := H h1 e1 hT1
  refine vx_retV (q := 6) (by decide +kernel) ?_
  exact H
