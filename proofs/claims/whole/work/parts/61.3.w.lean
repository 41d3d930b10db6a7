/-! Printed by my own program (wip/whole/gen_seg.py): walks of methods 90,92,93,98,100 -/
-- RuleHouseModel.level(I)V
theorem vg_90 {d : Nat} {h : ve_H} {P : ve_H → Prop} {x1 : Int} (hT : vx_T 625 672 h) (H : (∀ h1, h1 = vx_sJ h 625 67 0 → vx_T 625 672 h1 → vx_W (d + 1) 90 14 [some (.ref 625), some (.int (vx_i x1)), some (.int (vx_i (400 * (vx_J h1 625 11)))), none] [] h1 (vx_RV P))) : vx_CV (d + 1) 90 [.ref 625, .int (vx_i x1)] h P := by
  refine vx_enter (ml := 4) (by decide +kernel) ?_
  show vx_W _ _ 0 [some (.ref 625), some (.int (vx_i x1)), none, none] [] h _
  refine vx_aload_n (n := 0) (q := 1) (by decide +kernel) rfl ?_
  refine vx_iconst (n := 0) (q := 2) (by decide +kernel) ?_
  refine vx_putI (idx := 443) (kd := 9) (s := 67) (fin := false) (q := 5) (by decide +kernel) (vx_Tk hT (by decide +kernel)) (fun h1 e1 => ?_)
  have hT1 := vx_TJ hT e1
  replace H := H h1 e1 hT1
  refine vx_sipush (n := 400) (q := 8) (by decide +kernel) ?_
  refine vx_aload_n (n := 0) (q := 9) (by decide +kernel) rfl ?_
  refine vx_getI (idx := 342) (kd := 9) (s := 11) (fin := false) (q := 12) (by decide +kernel) (vx_Tk hT1 (by decide +kernel)) ?_
  refine vx_imul (q := 13) (by decide +kernel) ?_
  refine vx_istore_n (n := 2) (q := 14) (lv' := [some (.ref 625), some (.int (vx_i x1)), some (.int (vx_i (400 * (vx_J h1 625 11)))), none]) (by decide +kernel) rfl ?_
  exact H
theorem vg_90_14 {d : Nat} {h : ve_H} {P : ve_H → Prop} {v1 : Int} {v2 : Int} {v3 : Option Value} (hT : vx_T 625 672 h) (H : (0 ≤ (vx_J h 625 11) ∧ (vx_J h 625 11) < 2) ∧ (vx_rI v2) ∧ (vx_rI ((400 * (vx_J h 625 11)) + (vx_J h 647 (vx_J h 625 11).toNat))) ∧ ((((400 * (vx_J h 625 11)) + (vx_J h 647 (vx_J h 625 11).toNat)) ≤ v2 → vx_W (d + 1) 90 116 [some (.ref 625), some (.int (vx_i v1)), some (.int (vx_i 1)), v3] [] h (vx_RV P)) ∧ (v2 < ((400 * (vx_J h 625 11)) + (vx_J h 647 (vx_J h 625 11).toNat)) → (((vx_J h 625 68) ≠ 0 → vx_W (d + 1) 90 116 [some (.ref 625), some (.int (vx_i v1)), some (.int (vx_i 1)), v3] [] h (vx_RV P)) ∧ ((vx_J h 625 68) = 0 → (0 ≤ v2 ∧ v2 < 800) ∧ (0 ≤ ((16 * (vx_J h 625 11)) + (vx_J h 648 v2.toNat)) ∧ ((16 * (vx_J h 625 11)) + (vx_J h 648 v2.toNat)) < 32) ∧ (vx_rI v1) ∧ (((vx_J h 634 ((16 * (vx_J h 625 11)) + (vx_J h 648 v2.toNat)).toNat) = v1 → vx_W (d + 1) 90 71 [some (.ref 625), some (.int (vx_i v1)), some (.int (vx_i v2)), some (.int (vx_i 0))] [] h (vx_RV P)) ∧ ((vx_J h 634 ((16 * (vx_J h 625 11)) + (vx_J h 648 v2.toNat)).toNat) ≠ v1 → vx_W (d + 1) 90 14 [some (.ref 625), some (.int (vx_i v1)), some (.int (vx_i (v2 + 1))), v3] [] h (vx_RV P)))))))) : vx_W (d + 1) 90 14 [some (.ref 625), some (.int (vx_i v1)), some (.int (vx_i v2)), v3] [] h (vx_RV P) := by
  refine vx_iload_n (n := 2) (q := 15) (by decide +kernel) rfl ?_
  refine vx_sipush (n := 400) (q := 18) (by decide +kernel) ?_
  refine vx_aload_n (n := 0) (q := 19) (by decide +kernel) rfl ?_
  refine vx_getI (idx := 342) (kd := 9) (s := 11) (fin := false) (q := 22) (by decide +kernel) (vx_Tk hT (by decide +kernel)) ?_
  refine vx_imul (q := 23) (by decide +kernel) ?_
  refine vx_aload_n (n := 0) (q := 24) (by decide +kernel) rfl ?_
  refine vx_getR (b := 647) (idx := 74) (kd := 9) (s := 28) (fin := true) (q := 27) (by decide +kernel) (vx_Tk hT (by decide +kernel)) (vx_Tr hT (kd := 9) (by decide +kernel) (by decide +kernel) (by decide +kernel)) ?_
  refine vx_aload_n (n := 0) (q := 28) (by decide +kernel) rfl ?_
  refine vx_getI (idx := 342) (kd := 9) (s := 11) (fin := false) (q := 31) (by decide +kernel) (vx_Tk hT (by decide +kernel)) ?_
  obtain ⟨k1, H⟩ := H
  refine vx_iaload (z := 2) (q := 32) (by decide +kernel) (vx_Tk hT (by decide +kernel)) (vx_Tz hT (by decide +kernel)) (vx_ix k1 (by decide)) ?_
  refine vx_iadd (q := 33) (by decide +kernel) ?_
  obtain ⟨k2, H⟩ := H
  obtain ⟨k3, H⟩ := H
  refine vx_icmp_ge (off := 81) (q := 36) (t := 114) (by decide +kernel) k2 k3 (fun c4 => ?_) (fun c4 => ?_)
  · replace H := H.1 c4
    refine vx_iconst (n := 1) (q := 115) (by decide +kernel) ?_
    refine vx_istore_n (n := 2) (q := 116) (lv' := [some (.ref 625), some (.int (vx_i v1)), some (.int (vx_i 1)), v3]) (by decide +kernel) rfl ?_
    exact H
  · replace H := H.2 c4
    refine vx_aload_n (n := 0) (q := 37) (by decide +kernel) rfl ?_
    refine vx_getZ (idx := 422) (kd := 9) (s := 68) (fin := false) (q := 40) (by decide +kernel) (vx_Tk hT (by decide +kernel)) ?_
    refine vx_if0_ne (off := 74) (q := 43) (t := 114) (by decide +kernel) (vx_rI_J h 625 68) (fun c5 => ?_) (fun c5 => ?_)
    · replace H := H.1 c5
      refine vx_iconst (n := 1) (q := 115) (by decide +kernel) ?_
      refine vx_istore_n (n := 2) (q := 116) (lv' := [some (.ref 625), some (.int (vx_i v1)), some (.int (vx_i 1)), v3]) (by decide +kernel) rfl ?_
      exact H
    · replace H := H.2 c5
      refine vx_aload_n (n := 0) (q := 44) (by decide +kernel) rfl ?_
      refine vx_getR (b := 634) (idx := 35) (kd := 9) (s := 15) (fin := true) (q := 47) (by decide +kernel) (vx_Tk hT (by decide +kernel)) (vx_Tr hT (kd := 9) (by decide +kernel) (by decide +kernel) (by decide +kernel)) ?_
      refine vx_bipush (n := 16) (q := 49) (by decide +kernel) ?_
      refine vx_aload_n (n := 0) (q := 50) (by decide +kernel) rfl ?_
      refine vx_getI (idx := 342) (kd := 9) (s := 11) (fin := false) (q := 53) (by decide +kernel) (vx_Tk hT (by decide +kernel)) ?_
      refine vx_imul (q := 54) (by decide +kernel) ?_
      refine vx_aload_n (n := 0) (q := 55) (by decide +kernel) rfl ?_
      refine vx_getR (b := 648) (idx := 77) (kd := 9) (s := 29) (fin := true) (q := 58) (by decide +kernel) (vx_Tk hT (by decide +kernel)) (vx_Tr hT (kd := 9) (by decide +kernel) (by decide +kernel) (by decide +kernel)) ?_
      refine vx_iload_n (n := 2) (q := 59) (by decide +kernel) rfl ?_
      obtain ⟨k6, H⟩ := H
      refine vx_iaload (z := 800) (q := 60) (by decide +kernel) (vx_Tk hT (by decide +kernel)) (vx_Tz hT (by decide +kernel)) (vx_ix k6 (by decide)) ?_
      refine vx_iadd (q := 61) (by decide +kernel) ?_
      obtain ⟨k7, H⟩ := H
      refine vx_iaload (z := 32) (q := 62) (by decide +kernel) (vx_Tk hT (by decide +kernel)) (vx_Tz hT (by decide +kernel)) (vx_ix k7 (by decide)) ?_
      refine vx_iload_n (n := 1) (q := 63) (by decide +kernel) rfl ?_
      obtain ⟨k8, H⟩ := H
      refine vx_icmp_eq (off := 6) (q := 66) (t := 69) (by decide +kernel) (vx_rI_J h 634 ((16 * (vx_J h 625 11)) + (vx_J h 648 v2.toNat)).toNat) k8 (fun c9 => ?_) (fun c9 => ?_)
      · replace H := H.1 c9
        refine vx_iconst (n := 0) (q := 70) (by decide +kernel) ?_
        refine vx_istore_n (n := 3) (q := 71) (lv' := [some (.ref 625), some (.int (vx_i v1)), some (.int (vx_i v2)), some (.int (vx_i 0))]) (by decide +kernel) rfl ?_
        exact H
      · replace H := H.2 c9
        refine vx_goto (off := 42) (q := 69) (t := 108) (by decide +kernel) ?_
        refine vx_iinc (n := 2) (m := 1) (x := v2) (q := 111) (lv' := [some (.ref 625), some (.int (vx_i v1)), some (.int (vx_i (v2 + 1))), v3]) (by decide +kernel) rfl rfl ?_
        refine vx_goto (off := (-97)) (q := 114) (t := 14) (by decide +kernel) ?_
        exact H
theorem vg_90_71 {d : Nat} {h : ve_H} {P : ve_H → Prop} {v1 : Int} {v2 : Int} {v3 : Int} (hT : vx_T 625 672 h) (H : (vx_rI v3) ∧ ((4 ≤ v3 → (0 ≤ v2 ∧ v2 < 800) ∧ vx_CV d 84 [.ref 625, .int (vx_i (vx_J h 648 v2.toNat))] h (fun h4 => vx_T 625 672 h4 → vx_W (d + 1) 90 14 [some (.ref 625), some (.int (vx_i v1)), some (.int (vx_i (v2 + 1))), some (.int (vx_i v3))] [] h4 (vx_RV P))) ∧ (v3 < 4 → (0 ≤ ((4 * v2) + v3) ∧ ((4 * v2) + v3) < 3200) ∧ (0 ≤ v3 ∧ v3 < 4) ∧ (∀ h7, h7 = vx_sK h 669 v3.toNat (vx_K h 649 ((4 * v2) + v3).toNat) → vx_T 625 672 h7 → vx_W (d + 1) 90 71 [some (.ref 625), some (.int (vx_i v1)), some (.int (vx_i v2)), some (.int (vx_i (v3 + 1)))] [] h7 (vx_RV P))))) : vx_W (d + 1) 90 71 [some (.ref 625), some (.int (vx_i v1)), some (.int (vx_i v2)), some (.int (vx_i v3))] [] h (vx_RV P) := by
  refine vx_iload_n (n := 3) (q := 72) (by decide +kernel) rfl ?_
  refine vx_iconst (n := 4) (q := 73) (by decide +kernel) ?_
  obtain ⟨k1, H⟩ := H
  refine vx_icmp_ge (off := 25) (q := 76) (t := 98) (by decide +kernel) k1 (by decide) (fun c2 => ?_) (fun c2 => ?_)
  · replace H := H.1 c2
    refine vx_aload_n (n := 0) (q := 99) (by decide +kernel) rfl ?_
    refine vx_aload_n (n := 0) (q := 100) (by decide +kernel) rfl ?_
    refine vx_getR (b := 648) (idx := 77) (kd := 9) (s := 29) (fin := true) (q := 103) (by decide +kernel) (vx_Tk hT (by decide +kernel)) (vx_Tr hT (kd := 9) (by decide +kernel) (by decide +kernel) (by decide +kernel)) ?_
    refine vx_iload_n (n := 2) (q := 104) (by decide +kernel) rfl ?_
    obtain ⟨k3, H⟩ := H
    refine vx_iaload (z := 800) (q := 105) (by decide +kernel) (vx_Tk hT (by decide +kernel)) (vx_Tz hT (by decide +kernel)) (vx_ix k3 (by decide)) ?_
    refine vx_callV (i := .invokevirtual 450) (how := 3) (cm := 84) (np := 2) (q := 108) (args := [.ref 625, .int (vx_i (vx_J h 648 v2.toNat))]) (rest := []) (by decide +kernel) rfl rfl rfl (vx_w2 (w := 2) (ml := 5) rfl (by decide +kernel)) (vx_rcv (kd := 9) (vx_Tk hT (by decide +kernel)) (by decide +kernel)) H (fun h4 hs4 H => ?_)
    have hT4 := vx_Tsh hT hs4
    replace H := H hT4
    refine vx_iinc (n := 2) (m := 1) (x := v2) (q := 111) (lv' := [some (.ref 625), some (.int (vx_i v1)), some (.int (vx_i (v2 + 1))), some (.int (vx_i v3))]) (by decide +kernel) rfl rfl ?_
    refine vx_goto (off := (-97)) (q := 114) (t := 14) (by decide +kernel) ?_
    exact H
  · replace H := H.2 c2
    refine vx_aload_n (n := 0) (q := 77) (by decide +kernel) rfl ?_
    refine vx_getR (b := 669) (idx := 145) (kd := 9) (s := 74) (fin := true) (q := 80) (by decide +kernel) (vx_Tk hT (by decide +kernel)) (vx_Tr hT (kd := 9) (by decide +kernel) (by decide +kernel) (by decide +kernel)) ?_
    refine vx_iload_n (n := 3) (q := 81) (by decide +kernel) rfl ?_
    refine vx_aload_n (n := 0) (q := 82) (by decide +kernel) rfl ?_
    refine vx_getR (b := 649) (idx := 80) (kd := 9) (s := 30) (fin := true) (q := 85) (by decide +kernel) (vx_Tk hT (by decide +kernel)) (vx_Tr hT (kd := 9) (by decide +kernel) (by decide +kernel) (by decide +kernel)) ?_
    refine vx_iconst (n := 4) (q := 86) (by decide +kernel) ?_
    refine vx_iload_n (n := 2) (q := 87) (by decide +kernel) rfl ?_
    refine vx_imul (q := 88) (by decide +kernel) ?_
    refine vx_iload_n (n := 3) (q := 89) (by decide +kernel) rfl ?_
    refine vx_iadd (q := 90) (by decide +kernel) ?_
    obtain ⟨k5, H⟩ := H
    refine vx_laload (z := 3200) (q := 91) (by decide +kernel) (vx_Tk hT (by decide +kernel)) (vx_Tz hT (by decide +kernel)) (vx_ix k5 (by decide)) ?_
    obtain ⟨k6, H⟩ := H
    refine vx_lastore (z := 4) (q := 92) (by decide +kernel) (vx_Tk hT (by decide +kernel)) (vx_Tz hT (by decide +kernel)) (vx_ix k6 (by decide)) (fun h7 e7 => ?_)
    have hT7 := vx_TK hT e7
    replace H := H h7 e7 hT7
    refine vx_iinc (n := 3) (m := 1) (x := v3) (q := 95) (lv' := [some (.ref 625), some (.int (vx_i v1)), some (.int (vx_i v2)), some (.int (vx_i (v3 + 1)))]) (by decide +kernel) rfl rfl ?_
    refine vx_goto (off := (-24)) (q := 98) (t := 71) (by decide +kernel) ?_
    exact H
theorem vg_90_116 {d : Nat} {h : ve_H} {P : ve_H → Prop} {v1 : Int} {v2 : Int} {v3 : Option Value} (hT : vx_T 625 672 h) (H : (vx_rI v2) ∧ ((v2 = 0 → P h) ∧ (v2 ≠ 0 → (((vx_J h 625 68) ≠ 0 → P h) ∧ ((vx_J h 625 68) = 0 → (∀ h4, h4 = vx_sJ h 625 67 ((vx_J h 625 67) + 1) → vx_T 625 672 h4 → (∀ h5, h5 = vx_sJ h4 625 65 (vx_J h4 625 32) → vx_T 625 672 h5 → vx_W (d + 1) 90 153 [some (.ref 625), some (.int (vx_i v1)), some (.int (vx_i v2)), some (.int (vx_i (30 * (vx_J h5 625 11))))] [] h5 (vx_RV P)))))))) : vx_W (d + 1) 90 116 [some (.ref 625), some (.int (vx_i v1)), some (.int (vx_i v2)), v3] [] h (vx_RV P) := by
  refine vx_iload_n (n := 2) (q := 117) (by decide +kernel) rfl ?_
  obtain ⟨k1, H⟩ := H
  refine vx_if0_eq (off := 160) (q := 120) (t := 277) (by decide +kernel) k1 (fun c2 => ?_) (fun c2 => ?_)
  · replace H := H.1 c2
    refine vx_retV (q := 278) (by decide +kernel) ?_
    exact H
  · replace H := H.2 c2
    refine vx_aload_n (n := 0) (q := 121) (by decide +kernel) rfl ?_
    refine vx_getZ (idx := 422) (kd := 9) (s := 68) (fin := false) (q := 124) (by decide +kernel) (vx_Tk hT (by decide +kernel)) ?_
    refine vx_if0_ne (off := 153) (q := 127) (t := 277) (by decide +kernel) (vx_rI_J h 625 68) (fun c3 => ?_) (fun c3 => ?_)
    · replace H := H.1 c3
      refine vx_retV (q := 278) (by decide +kernel) ?_
      exact H
    · replace H := H.2 c3
      refine vx_aload_n (n := 0) (q := 128) (by decide +kernel) rfl ?_
      refine vx_dupR (q := 129) (by decide +kernel) ?_
      refine vx_getI (idx := 443) (kd := 9) (s := 67) (fin := false) (q := 132) (by decide +kernel) (vx_Tk hT (by decide +kernel)) ?_
      refine vx_iconst (n := 1) (q := 133) (by decide +kernel) ?_
      refine vx_iadd (q := 134) (by decide +kernel) ?_
      refine vx_putI (idx := 443) (kd := 9) (s := 67) (fin := false) (q := 137) (by decide +kernel) (vx_Tk hT (by decide +kernel)) (fun h4 e4 => ?_)
      have hT4 := vx_TJ hT e4
      replace H := H h4 e4 hT4
      refine vx_aload_n (n := 0) (q := 138) (by decide +kernel) rfl ?_
      refine vx_aload_n (n := 0) (q := 139) (by decide +kernel) rfl ?_
      refine vx_getI (idx := 357) (kd := 9) (s := 32) (fin := false) (q := 142) (by decide +kernel) (vx_Tk hT4 (by decide +kernel)) ?_
      refine vx_putI (idx := 398) (kd := 9) (s := 65) (fin := false) (q := 145) (by decide +kernel) (vx_Tk hT4 (by decide +kernel)) (fun h5 e5 => ?_)
      have hT5 := vx_TJ hT4 e5
      replace H := H h5 e5 hT5
      refine vx_bipush (n := 30) (q := 147) (by decide +kernel) ?_
      refine vx_aload_n (n := 0) (q := 148) (by decide +kernel) rfl ?_
      refine vx_getI (idx := 342) (kd := 9) (s := 11) (fin := false) (q := 151) (by decide +kernel) (vx_Tk hT5 (by decide +kernel)) ?_
      refine vx_imul (q := 152) (by decide +kernel) ?_
      refine vx_istore_n (n := 3) (q := 153) (lv' := [some (.ref 625), some (.int (vx_i v1)), some (.int (vx_i v2)), some (.int (vx_i (30 * (vx_J h5 625 11))))]) (by decide +kernel) rfl ?_
      exact H
theorem vg_90_153 {d : Nat} {h : ve_H} {P : ve_H → Prop} {v1 : Int} {v2 : Int} {v3 : Int} (hT : vx_T 625 672 h) (H : (0 ≤ (vx_J h 625 11) ∧ (vx_J h 625 11) < 2) ∧ (vx_rI v3) ∧ (vx_rI ((30 * (vx_J h 625 11)) + (vx_J h 635 (vx_J h 625 11).toNat))) ∧ ((((30 * (vx_J h 625 11)) + (vx_J h 635 (vx_J h 625 11).toNat)) ≤ v3 → (((vx_J h 625 32) ≤ (vx_J h 625 65) → vx_W (d + 1) 90 116 [some (.ref 625), some (.int (vx_i v1)), some (.int (vx_i 0)), some (.int (vx_i v3))] [] h (vx_RV P)) ∧ ((vx_J h 625 65) < (vx_J h 625 32) → vx_W (d + 1) 90 116 [some (.ref 625), some (.int (vx_i v1)), some (.int (vx_i 1)), some (.int (vx_i v3))] [] h (vx_RV P)))) ∧ (v3 < ((30 * (vx_J h 625 11)) + (vx_J h 635 (vx_J h 625 11).toNat)) → (((vx_J h 625 68) ≠ 0 → (((vx_J h 625 32) ≤ (vx_J h 625 65) → vx_W (d + 1) 90 116 [some (.ref 625), some (.int (vx_i v1)), some (.int (vx_i 0)), some (.int (vx_i v3))] [] h (vx_RV P)) ∧ ((vx_J h 625 65) < (vx_J h 625 32) → vx_W (d + 1) 90 116 [some (.ref 625), some (.int (vx_i v1)), some (.int (vx_i 1)), some (.int (vx_i v3))] [] h (vx_RV P)))) ∧ ((vx_J h 625 68) = 0 → (0 ≤ v3 ∧ v3 < 61) ∧ (0 ≤ ((16 * (vx_J h 625 11)) + (vx_J h 636 v3.toNat)) ∧ ((16 * (vx_J h 625 11)) + (vx_J h 636 v3.toNat)) < 32) ∧ (vx_rI v1) ∧ (((vx_J h 634 ((16 * (vx_J h 625 11)) + (vx_J h 636 v3.toNat)).toNat) = v1 → (∀ h12, h12 = vx_sJ h 625 66 0 → vx_T 625 672 h12 → (0 ≤ v3 ∧ v3 < 61) ∧ (((vx_J h12 639 v3.toNat) ≤ 0 → (0 ≤ v3 ∧ v3 < 61) ∧ (((vx_J h12 639 v3.toNat) ≠ 0 → vx_W (d + 1) 90 153 [some (.ref 625), some (.int (vx_i v1)), some (.int (vx_i v2)), some (.int (vx_i (v3 + 1)))] [] h12 (vx_RV P)) ∧ ((vx_J h12 639 v3.toNat) = 0 → vx_CV d 79 [.ref 625, .int (vx_i v3)] h12 (fun h17 => vx_T 625 672 h17 → vx_W (d + 1) 90 153 [some (.ref 625), some (.int (vx_i v1)), some (.int (vx_i v2)), some (.int (vx_i (v3 + 1)))] [] h17 (vx_RV P))))) ∧ (0 < (vx_J h12 639 v3.toNat) → (((vx_J h12 625 67) ≠ 1 → (0 ≤ v3 ∧ v3 < 61) ∧ vx_W (d + 1) 90 153 [some (.ref 625), some (.int (vx_i v1)), some (.int (vx_i v2)), some (.int (vx_i (v3 + 1)))] [] h12 (vx_RV P)) ∧ ((vx_J h12 625 67) = 1 → vx_CV d 88 [.ref 625, .int (vx_i v3)] h12 (fun h20 => vx_T 625 672 h20 → vx_W (d + 1) 90 153 [some (.ref 625), some (.int (vx_i v1)), some (.int (vx_i v2)), some (.int (vx_i (v3 + 1)))] [] h20 (vx_RV P)))))))) ∧ ((vx_J h 634 ((16 * (vx_J h 625 11)) + (vx_J h 636 v3.toNat)).toNat) ≠ v1 → vx_W (d + 1) 90 153 [some (.ref 625), some (.int (vx_i v1)), some (.int (vx_i v2)), some (.int (vx_i (v3 + 1)))] [] h (vx_RV P)))))))) : vx_W (d + 1) 90 153 [some (.ref 625), some (.int (vx_i v1)), some (.int (vx_i v2)), some (.int (vx_i v3))] [] h (vx_RV P) := by
  refine vx_iload_n (n := 3) (q := 154) (by decide +kernel) rfl ?_
  refine vx_bipush (n := 30) (q := 156) (by decide +kernel) ?_
  refine vx_aload_n (n := 0) (q := 157) (by decide +kernel) rfl ?_
  refine vx_getI (idx := 342) (kd := 9) (s := 11) (fin := false) (q := 160) (by decide +kernel) (vx_Tk hT (by decide +kernel)) ?_
  refine vx_imul (q := 161) (by decide +kernel) ?_
  refine vx_aload_n (n := 0) (q := 162) (by decide +kernel) rfl ?_
  refine vx_getR (b := 635) (idx := 38) (kd := 9) (s := 16) (fin := true) (q := 165) (by decide +kernel) (vx_Tk hT (by decide +kernel)) (vx_Tr hT (kd := 9) (by decide +kernel) (by decide +kernel) (by decide +kernel)) ?_
  refine vx_aload_n (n := 0) (q := 166) (by decide +kernel) rfl ?_
  refine vx_getI (idx := 342) (kd := 9) (s := 11) (fin := false) (q := 169) (by decide +kernel) (vx_Tk hT (by decide +kernel)) ?_
  obtain ⟨k1, H⟩ := H
  refine vx_iaload (z := 2) (q := 170) (by decide +kernel) (vx_Tk hT (by decide +kernel)) (vx_Tz hT (by decide +kernel)) (vx_ix k1 (by decide)) ?_
  refine vx_iadd (q := 171) (by decide +kernel) ?_
  obtain ⟨k2, H⟩ := H
  obtain ⟨k3, H⟩ := H
  refine vx_icmp_ge (off := 86) (q := 174) (t := 257) (by decide +kernel) k2 k3 (fun c4 => ?_) (fun c4 => ?_)
  · replace H := H.1 c4
    refine vx_aload_n (n := 0) (q := 258) (by decide +kernel) rfl ?_
    refine vx_getI (idx := 357) (kd := 9) (s := 32) (fin := false) (q := 261) (by decide +kernel) (vx_Tk hT (by decide +kernel)) ?_
    refine vx_aload_n (n := 0) (q := 262) (by decide +kernel) rfl ?_
    refine vx_getI (idx := 398) (kd := 9) (s := 65) (fin := false) (q := 265) (by decide +kernel) (vx_Tk hT (by decide +kernel)) ?_
    refine vx_icmp_le (off := 7) (q := 268) (t := 272) (by decide +kernel) (vx_rI_J h 625 32) (vx_rI_J h 625 65) (fun c5 => ?_) (fun c5 => ?_)
    · replace H := H.1 c5
      refine vx_iconst (n := 0) (q := 273) (by decide +kernel) ?_
      refine vx_istore_n (n := 2) (q := 274) (lv' := [some (.ref 625), some (.int (vx_i v1)), some (.int (vx_i 0)), some (.int (vx_i v3))]) (by decide +kernel) rfl ?_
      refine vx_goto (off := (-158)) (q := 277) (t := 116) (by decide +kernel) ?_
      exact H
    · replace H := H.2 c5
      refine vx_iconst (n := 1) (q := 269) (by decide +kernel) ?_
      refine vx_goto (off := 4) (q := 272) (t := 273) (by decide +kernel) ?_
      refine vx_istore_n (n := 2) (q := 274) (lv' := [some (.ref 625), some (.int (vx_i v1)), some (.int (vx_i 1)), some (.int (vx_i v3))]) (by decide +kernel) rfl ?_
      refine vx_goto (off := (-158)) (q := 277) (t := 116) (by decide +kernel) ?_
      exact H
  · replace H := H.2 c4
    refine vx_aload_n (n := 0) (q := 175) (by decide +kernel) rfl ?_
    refine vx_getZ (idx := 422) (kd := 9) (s := 68) (fin := false) (q := 178) (by decide +kernel) (vx_Tk hT (by decide +kernel)) ?_
    refine vx_if0_ne (off := 79) (q := 181) (t := 257) (by decide +kernel) (vx_rI_J h 625 68) (fun c6 => ?_) (fun c6 => ?_)
    · replace H := H.1 c6
      refine vx_aload_n (n := 0) (q := 258) (by decide +kernel) rfl ?_
      refine vx_getI (idx := 357) (kd := 9) (s := 32) (fin := false) (q := 261) (by decide +kernel) (vx_Tk hT (by decide +kernel)) ?_
      refine vx_aload_n (n := 0) (q := 262) (by decide +kernel) rfl ?_
      refine vx_getI (idx := 398) (kd := 9) (s := 65) (fin := false) (q := 265) (by decide +kernel) (vx_Tk hT (by decide +kernel)) ?_
      refine vx_icmp_le (off := 7) (q := 268) (t := 272) (by decide +kernel) (vx_rI_J h 625 32) (vx_rI_J h 625 65) (fun c7 => ?_) (fun c7 => ?_)
      · replace H := H.1 c7
        refine vx_iconst (n := 0) (q := 273) (by decide +kernel) ?_
        refine vx_istore_n (n := 2) (q := 274) (lv' := [some (.ref 625), some (.int (vx_i v1)), some (.int (vx_i 0)), some (.int (vx_i v3))]) (by decide +kernel) rfl ?_
        refine vx_goto (off := (-158)) (q := 277) (t := 116) (by decide +kernel) ?_
        exact H
      · replace H := H.2 c7
        refine vx_iconst (n := 1) (q := 269) (by decide +kernel) ?_
        refine vx_goto (off := 4) (q := 272) (t := 273) (by decide +kernel) ?_
        refine vx_istore_n (n := 2) (q := 274) (lv' := [some (.ref 625), some (.int (vx_i v1)), some (.int (vx_i 1)), some (.int (vx_i v3))]) (by decide +kernel) rfl ?_
        refine vx_goto (off := (-158)) (q := 277) (t := 116) (by decide +kernel) ?_
        exact H
    · replace H := H.2 c6
      refine vx_aload_n (n := 0) (q := 182) (by decide +kernel) rfl ?_
      refine vx_getR (b := 634) (idx := 35) (kd := 9) (s := 15) (fin := true) (q := 185) (by decide +kernel) (vx_Tk hT (by decide +kernel)) (vx_Tr hT (kd := 9) (by decide +kernel) (by decide +kernel) (by decide +kernel)) ?_
      refine vx_bipush (n := 16) (q := 187) (by decide +kernel) ?_
      refine vx_aload_n (n := 0) (q := 188) (by decide +kernel) rfl ?_
      refine vx_getI (idx := 342) (kd := 9) (s := 11) (fin := false) (q := 191) (by decide +kernel) (vx_Tk hT (by decide +kernel)) ?_
      refine vx_imul (q := 192) (by decide +kernel) ?_
      refine vx_aload_n (n := 0) (q := 193) (by decide +kernel) rfl ?_
      refine vx_getR (b := 636) (idx := 41) (kd := 9) (s := 17) (fin := true) (q := 196) (by decide +kernel) (vx_Tk hT (by decide +kernel)) (vx_Tr hT (kd := 9) (by decide +kernel) (by decide +kernel) (by decide +kernel)) ?_
      refine vx_iload_n (n := 3) (q := 197) (by decide +kernel) rfl ?_
      obtain ⟨k8, H⟩ := H
      refine vx_iaload (z := 61) (q := 198) (by decide +kernel) (vx_Tk hT (by decide +kernel)) (vx_Tz hT (by decide +kernel)) (vx_ix k8 (by decide)) ?_
      refine vx_iadd (q := 199) (by decide +kernel) ?_
      obtain ⟨k9, H⟩ := H
      refine vx_iaload (z := 32) (q := 200) (by decide +kernel) (vx_Tk hT (by decide +kernel)) (vx_Tz hT (by decide +kernel)) (vx_ix k9 (by decide)) ?_
      refine vx_iload_n (n := 1) (q := 201) (by decide +kernel) rfl ?_
      obtain ⟨k10, H⟩ := H
      refine vx_icmp_eq (off := 6) (q := 204) (t := 207) (by decide +kernel) (vx_rI_J h 634 ((16 * (vx_J h 625 11)) + (vx_J h 636 v3.toNat)).toNat) k10 (fun c11 => ?_) (fun c11 => ?_)
      · replace H := H.1 c11
        refine vx_aload_n (n := 0) (q := 208) (by decide +kernel) rfl ?_
        refine vx_iconst (n := 0) (q := 209) (by decide +kernel) ?_
        refine vx_putI (idx := 428) (kd := 9) (s := 66) (fin := false) (q := 212) (by decide +kernel) (vx_Tk hT (by decide +kernel)) (fun h12 e12 => ?_)
        have hT12 := vx_TJ hT e12
        replace H := H h12 e12 hT12
        refine vx_aload_n (n := 0) (q := 213) (by decide +kernel) rfl ?_
        refine vx_getR (b := 639) (idx := 50) (kd := 9) (s := 20) (fin := true) (q := 216) (by decide +kernel) (vx_Tk hT12 (by decide +kernel)) (vx_Tr hT12 (kd := 9) (by decide +kernel) (by decide +kernel) (by decide +kernel)) ?_
        refine vx_iload_n (n := 3) (q := 217) (by decide +kernel) rfl ?_
        obtain ⟨k13, H⟩ := H
        refine vx_iaload (z := 61) (q := 218) (by decide +kernel) (vx_Tk hT12 (by decide +kernel)) (vx_Tz hT12 (by decide +kernel)) (vx_ix k13 (by decide)) ?_
        refine vx_if0_le (off := 19) (q := 221) (t := 237) (by decide +kernel) (vx_rI_J h12 639 v3.toNat) (fun c14 => ?_) (fun c14 => ?_)
        · replace H := H.1 c14
          refine vx_aload_n (n := 0) (q := 238) (by decide +kernel) rfl ?_
          refine vx_getR (b := 639) (idx := 50) (kd := 9) (s := 20) (fin := true) (q := 241) (by decide +kernel) (vx_Tk hT12 (by decide +kernel)) (vx_Tr hT12 (kd := 9) (by decide +kernel) (by decide +kernel) (by decide +kernel)) ?_
          refine vx_iload_n (n := 3) (q := 242) (by decide +kernel) rfl ?_
          obtain ⟨k15, H⟩ := H
          refine vx_iaload (z := 61) (q := 243) (by decide +kernel) (vx_Tk hT12 (by decide +kernel)) (vx_Tz hT12 (by decide +kernel)) (vx_ix k15 (by decide)) ?_
          refine vx_if0_ne (off := 8) (q := 246) (t := 251) (by decide +kernel) (vx_rI_J h12 639 v3.toNat) (fun c16 => ?_) (fun c16 => ?_)
          · replace H := H.1 c16
            refine vx_iinc (n := 3) (m := 1) (x := v3) (q := 254) (lv' := [some (.ref 625), some (.int (vx_i v1)), some (.int (vx_i v2)), some (.int (vx_i (v3 + 1)))]) (by decide +kernel) rfl rfl ?_
            refine vx_goto (off := (-101)) (q := 257) (t := 153) (by decide +kernel) ?_
            exact H
          · replace H := H.2 c16
            refine vx_aload_n (n := 0) (q := 247) (by decide +kernel) rfl ?_
            refine vx_iload_n (n := 3) (q := 248) (by decide +kernel) rfl ?_
            refine vx_callV (i := .invokevirtual 459) (how := 3) (cm := 79) (np := 2) (q := 251) (args := [.ref 625, .int (vx_i v3)]) (rest := []) (by decide +kernel) rfl rfl rfl (vx_w2 (w := 2) (ml := 3) rfl (by decide +kernel)) (vx_rcv (kd := 9) (vx_Tk hT12 (by decide +kernel)) (by decide +kernel)) H (fun h17 hs17 H => ?_)
            have hT17 := vx_Tsh hT12 hs17
            replace H := H hT17
            refine vx_iinc (n := 3) (m := 1) (x := v3) (q := 254) (lv' := [some (.ref 625), some (.int (vx_i v1)), some (.int (vx_i v2)), some (.int (vx_i (v3 + 1)))]) (by decide +kernel) rfl rfl ?_
            refine vx_goto (off := (-101)) (q := 257) (t := 153) (by decide +kernel) ?_
            exact H
        · replace H := H.2 c14
          refine vx_aload_n (n := 0) (q := 222) (by decide +kernel) rfl ?_
          refine vx_getI (idx := 443) (kd := 9) (s := 67) (fin := false) (q := 225) (by decide +kernel) (vx_Tk hT12 (by decide +kernel)) ?_
          refine vx_iconst (n := 1) (q := 226) (by decide +kernel) ?_
          refine vx_icmp_ne (off := 11) (q := 229) (t := 237) (by decide +kernel) (vx_rI_J h12 625 67) (by decide) (fun c18 => ?_) (fun c18 => ?_)
          · replace H := H.1 c18
            refine vx_aload_n (n := 0) (q := 238) (by decide +kernel) rfl ?_
            refine vx_getR (b := 639) (idx := 50) (kd := 9) (s := 20) (fin := true) (q := 241) (by decide +kernel) (vx_Tk hT12 (by decide +kernel)) (vx_Tr hT12 (kd := 9) (by decide +kernel) (by decide +kernel) (by decide +kernel)) ?_
            refine vx_iload_n (n := 3) (q := 242) (by decide +kernel) rfl ?_
            obtain ⟨k19, H⟩ := H
            refine vx_iaload (z := 61) (q := 243) (by decide +kernel) (vx_Tk hT12 (by decide +kernel)) (vx_Tz hT12 (by decide +kernel)) (vx_ix k19 (by decide)) ?_
            refine vx_if0_ne (off := 8) (q := 246) (t := 251) (by decide +kernel) (vx_rI_J h12 639 v3.toNat) (fun _ => ?_) (fun c => absurd c (by omega))
            refine vx_iinc (n := 3) (m := 1) (x := v3) (q := 254) (lv' := [some (.ref 625), some (.int (vx_i v1)), some (.int (vx_i v2)), some (.int (vx_i (v3 + 1)))]) (by decide +kernel) rfl rfl ?_
            refine vx_goto (off := (-101)) (q := 257) (t := 153) (by decide +kernel) ?_
            exact H
          · replace H := H.2 c18
            refine vx_aload_n (n := 0) (q := 230) (by decide +kernel) rfl ?_
            refine vx_iload_n (n := 3) (q := 231) (by decide +kernel) rfl ?_
            refine vx_callV (i := .invokevirtual 462) (how := 3) (cm := 88) (np := 2) (q := 234) (args := [.ref 625, .int (vx_i v3)]) (rest := []) (by decide +kernel) rfl rfl rfl (vx_w2 (w := 2) (ml := 5) rfl (by decide +kernel)) (vx_rcv (kd := 9) (vx_Tk hT12 (by decide +kernel)) (by decide +kernel)) H (fun h20 hs20 H => ?_)
            have hT20 := vx_Tsh hT12 hs20
            replace H := H hT20
            refine vx_goto (off := 17) (q := 237) (t := 251) (by decide +kernel) ?_
            refine vx_iinc (n := 3) (m := 1) (x := v3) (q := 254) (lv' := [some (.ref 625), some (.int (vx_i v1)), some (.int (vx_i v2)), some (.int (vx_i (v3 + 1)))]) (by decide +kernel) rfl rfl ?_
            refine vx_goto (off := (-101)) (q := 257) (t := 153) (by decide +kernel) ?_
            exact H
      · replace H := H.2 c11
        refine vx_goto (off := 47) (q := 207) (t := 251) (by decide +kernel) ?_
        refine vx_iinc (n := 3) (m := 1) (x := v3) (q := 254) (lv' := [some (.ref 625), some (.int (vx_i v1)), some (.int (vx_i v2)), some (.int (vx_i (v3 + 1)))]) (by decide +kernel) rfl rfl ?_
        refine vx_goto (off := (-101)) (q := 257) (t := 153) (by decide +kernel) ?_
        exact H
-- RuleHouseModel.makeAnswer()V
theorem vg_92 {d : Nat} {h : ve_H} {P : ve_H → Prop}  (hT : vx_T 625 672 h) (H : (0 ≤ (vx_J h 625 42) ∧ (vx_J h 625 42) < 61) ∧ vx_W d 92 12 [some (.ref 625), some (.int (vx_i (vx_J h 642 (vx_J h 625 42).toNat))), some (.int (vx_i 0)), none, none] [] h (vx_RV P)) : vx_CV d 92 [.ref 625] h P := by
  refine vx_enter (ml := 5) (by decide +kernel) ?_
  show vx_W _ _ 0 [some (.ref 625), none, none, none, none] [] h _
  refine vx_aload_n (n := 0) (q := 1) (by decide +kernel) rfl ?_
  refine vx_getR (b := 642) (idx := 59) (kd := 9) (s := 23) (fin := true) (q := 4) (by decide +kernel) (vx_Tk hT (by decide +kernel)) (vx_Tr hT (kd := 9) (by decide +kernel) (by decide +kernel) (by decide +kernel)) ?_
  refine vx_aload_n (n := 0) (q := 5) (by decide +kernel) rfl ?_
  refine vx_getI (idx := 223) (kd := 9) (s := 42) (fin := false) (q := 8) (by decide +kernel) (vx_Tk hT (by decide +kernel)) ?_
  obtain ⟨k1, H⟩ := H
  refine vx_iaload (z := 61) (q := 9) (by decide +kernel) (vx_Tk hT (by decide +kernel)) (vx_Tz hT (by decide +kernel)) (vx_ix k1 (by decide)) ?_
  refine vx_istore_n (n := 1) (q := 10) (lv' := [some (.ref 625), some (.int (vx_i (vx_J h 642 (vx_J h 625 42).toNat))), none, none, none]) (by decide +kernel) rfl ?_
  refine vx_iconst (n := 0) (q := 11) (by decide +kernel) ?_
  refine vx_istore_n (n := 2) (q := 12) (lv' := [some (.ref 625), some (.int (vx_i (vx_J h 642 (vx_J h 625 42).toNat))), some (.int (vx_i 0)), none, none]) (by decide +kernel) rfl ?_
  exact H
theorem vg_92_12 {d : Nat} {h : ve_H} {P : ve_H → Prop} {v1 : Int} {v2 : Int} {v3 : Option Value} {v4 : Option Value} (hT : vx_T 625 672 h) (H : (vx_rI v2) ∧ (((vx_J h 625 78) ≤ v2 → (((vx_J h 625 78) ≠ 200 → (∀ h4, h4 = vx_sJ h 625 68 0 → vx_T 625 672 h4 → vx_W d 92 110 [some (.ref 625), some (.int (vx_i v1)), some (.int (vx_i 0)), v3, v4] [] h4 (vx_RV P))) ∧ ((vx_J h 625 78) = 200 → (∀ h5, h5 = vx_sJ h 625 68 1 → vx_T 625 672 h5 → P h5)))) ∧ (v2 < (vx_J h 625 78) → vx_W d 92 25 [some (.ref 625), some (.int (vx_i v1)), some (.int (vx_i v2)), some (.int (vx_i 1)), some (.int (vx_i 0))] [] h (vx_RV P)))) : vx_W d 92 12 [some (.ref 625), some (.int (vx_i v1)), some (.int (vx_i v2)), v3, v4] [] h (vx_RV P) := by
  refine vx_iload_n (n := 2) (q := 13) (by decide +kernel) rfl ?_
  refine vx_aload_n (n := 0) (q := 14) (by decide +kernel) rfl ?_
  refine vx_getI (idx := 474) (kd := 9) (s := 78) (fin := false) (q := 17) (by decide +kernel) (vx_Tk hT (by decide +kernel)) ?_
  obtain ⟨k1, H⟩ := H
  refine vx_icmp_ge (off := 64) (q := 20) (t := 81) (by decide +kernel) k1 (vx_rI_J h 625 78) (fun c2 => ?_) (fun c2 => ?_)
  · replace H := H.1 c2
    refine vx_aload_n (n := 0) (q := 82) (by decide +kernel) rfl ?_
    refine vx_aload_n (n := 0) (q := 83) (by decide +kernel) rfl ?_
    refine vx_getI (idx := 474) (kd := 9) (s := 78) (fin := false) (q := 86) (by decide +kernel) (vx_Tk hT (by decide +kernel)) ?_
    refine vx_sipush (n := 200) (q := 89) (by decide +kernel) ?_
    refine vx_icmp_ne (off := 7) (q := 92) (t := 96) (by decide +kernel) (vx_rI_J h 625 78) (by decide) (fun c3 => ?_) (fun c3 => ?_)
    · replace H := H.1 c3
      refine vx_iconst (n := 0) (q := 97) (by decide +kernel) ?_
      refine vx_putZ (idx := 422) (kd := 9) (s := 68) (fin := false) (q := 100) (by decide +kernel) (vx_Tk hT (by decide +kernel)) (Or.inl rfl) (fun h4 e4 => ?_)
      have hT4 := vx_TJ hT e4
      replace H := H h4 e4 hT4
      refine vx_aload_n (n := 0) (q := 101) (by decide +kernel) rfl ?_
      refine vx_getZ (idx := 422) (kd := 9) (s := 68) (fin := false) (q := 104) (by decide +kernel) (vx_Tk hT4 (by decide +kernel)) ?_
      rw [(vx_Jsm e4 (by decide))]
      refine vx_if0_eq (off := 4) (q := 107) (t := 108) (by decide +kernel) (by decide) (fun _ => ?_) (fun c => absurd c (by decide))
      refine vx_iconst (n := 0) (q := 109) (by decide +kernel) ?_
      refine vx_istore_n (n := 2) (q := 110) (lv' := [some (.ref 625), some (.int (vx_i v1)), some (.int (vx_i 0)), v3, v4]) (by decide +kernel) rfl ?_
      exact H
    · replace H := H.2 c3
      refine vx_iconst (n := 1) (q := 93) (by decide +kernel) ?_
      refine vx_goto (off := 4) (q := 96) (t := 97) (by decide +kernel) ?_
      refine vx_putZ (idx := 422) (kd := 9) (s := 68) (fin := false) (q := 100) (by decide +kernel) (vx_Tk hT (by decide +kernel)) (Or.inr rfl) (fun h5 e5 => ?_)
      have hT5 := vx_TJ hT e5
      replace H := H h5 e5 hT5
      refine vx_aload_n (n := 0) (q := 101) (by decide +kernel) rfl ?_
      refine vx_getZ (idx := 422) (kd := 9) (s := 68) (fin := false) (q := 104) (by decide +kernel) (vx_Tk hT5 (by decide +kernel)) ?_
      rw [(vx_Jsm e5 (by decide))]
      refine vx_if0_eq (off := 4) (q := 107) (t := 108) (by decide +kernel) (by decide) (fun c => absurd c (by decide)) (fun _ => ?_)
      refine vx_retV (q := 108) (by decide +kernel) ?_
      exact H
  · replace H := H.2 c2
    refine vx_iconst (n := 1) (q := 21) (by decide +kernel) ?_
    refine vx_istore_n (n := 3) (q := 22) (lv' := [some (.ref 625), some (.int (vx_i v1)), some (.int (vx_i v2)), some (.int (vx_i 1)), v4]) (by decide +kernel) rfl ?_
    refine vx_iconst (n := 0) (q := 23) (by decide +kernel) ?_
    refine vx_istore (n := 4) (q := 25) (lv' := [some (.ref 625), some (.int (vx_i v1)), some (.int (vx_i v2)), some (.int (vx_i 1)), some (.int (vx_i 0))]) (by decide +kernel) rfl ?_
    exact H
theorem vg_92_25 {d : Nat} {h : ve_H} {P : ve_H → Prop} {v1 : Int} {v2 : Int} {v3 : Int} {v4 : Int} (hT : vx_T 625 672 h) (H : (vx_rI v3) ∧ ((v3 = 0 → vx_W d 92 12 [some (.ref 625), some (.int (vx_i v1)), some (.int (vx_i (v2 + 1))), some (.int (vx_i v3)), some (.int (vx_i v4))] [] h (vx_RV P)) ∧ (v3 ≠ 0 → (vx_rI v4) ∧ (vx_rI v1) ∧ ((v1 ≤ v4 → P h) ∧ (v4 < v1 → (0 ≤ ((8 * v2) + v4) ∧ ((8 * v2) + v4) < 1700) ∧ (0 ≤ v4 ∧ v4 < 9) ∧ (((vx_K h 654 ((8 * v2) + v4).toNat) ≠ (vx_K h 665 v4.toNat) → vx_W d 92 25 [some (.ref 625), some (.int (vx_i v1)), some (.int (vx_i v2)), some (.int (vx_i 0)), some (.int (vx_i (v4 + 1)))] [] h (vx_RV P)) ∧ ((vx_K h 654 ((8 * v2) + v4).toNat) = (vx_K h 665 v4.toNat) → vx_W d 92 25 [some (.ref 625), some (.int (vx_i v1)), some (.int (vx_i v2)), some (.int (vx_i 1)), some (.int (vx_i (v4 + 1)))] [] h (vx_RV P)))))))) : vx_W d 92 25 [some (.ref 625), some (.int (vx_i v1)), some (.int (vx_i v2)), some (.int (vx_i v3)), some (.int (vx_i v4))] [] h (vx_RV P) := by
  refine vx_iload_n (n := 3) (q := 26) (by decide +kernel) rfl ?_
  obtain ⟨k1, H⟩ := H
  refine vx_if0_eq (off := 44) (q := 29) (t := 70) (by decide +kernel) k1 (fun c2 => ?_) (fun c2 => ?_)
  · replace H := H.1 c2
    refine vx_iload_n (n := 3) (q := 71) (by decide +kernel) rfl ?_
    refine vx_if0_eq (off := 4) (q := 74) (t := 75) (by decide +kernel) k1 (fun _ => ?_) (fun c => absurd c (by omega))
    refine vx_iinc (n := 2) (m := 1) (x := v2) (q := 78) (lv' := [some (.ref 625), some (.int (vx_i v1)), some (.int (vx_i (v2 + 1))), some (.int (vx_i v3)), some (.int (vx_i v4))]) (by decide +kernel) rfl rfl ?_
    refine vx_goto (off := (-66)) (q := 81) (t := 12) (by decide +kernel) ?_
    exact H
  · replace H := H.2 c2
    refine vx_iload (n := 4) (q := 31) (by decide +kernel) rfl ?_
    refine vx_iload_n (n := 1) (q := 32) (by decide +kernel) rfl ?_
    obtain ⟨k3, H⟩ := H
    obtain ⟨k4, H⟩ := H
    refine vx_icmp_ge (off := 38) (q := 35) (t := 70) (by decide +kernel) k3 k4 (fun c5 => ?_) (fun c5 => ?_)
    · replace H := H.1 c5
      refine vx_iload_n (n := 3) (q := 71) (by decide +kernel) rfl ?_
      refine vx_if0_eq (off := 4) (q := 74) (t := 75) (by decide +kernel) k1 (fun c => absurd c (by omega)) (fun _ => ?_)
      refine vx_retV (q := 75) (by decide +kernel) ?_
      exact H
    · replace H := H.2 c5
      refine vx_aload_n (n := 0) (q := 36) (by decide +kernel) rfl ?_
      refine vx_getR (b := 654) (idx := 99) (kd := 9) (s := 41) (fin := true) (q := 39) (by decide +kernel) (vx_Tk hT (by decide +kernel)) (vx_Tr hT (kd := 9) (by decide +kernel) (by decide +kernel) (by decide +kernel)) ?_
      refine vx_bipush (n := 8) (q := 41) (by decide +kernel) ?_
      refine vx_iload_n (n := 2) (q := 42) (by decide +kernel) rfl ?_
      refine vx_imul (q := 43) (by decide +kernel) ?_
      refine vx_iload (n := 4) (q := 45) (by decide +kernel) rfl ?_
      refine vx_iadd (q := 46) (by decide +kernel) ?_
      obtain ⟨k6, H⟩ := H
      refine vx_laload (z := 1700) (q := 47) (by decide +kernel) (vx_Tk hT (by decide +kernel)) (vx_Tz hT (by decide +kernel)) (vx_ix k6 (by decide)) ?_
      refine vx_aload_n (n := 0) (q := 48) (by decide +kernel) rfl ?_
      refine vx_getR (b := 665) (idx := 133) (kd := 9) (s := 64) (fin := true) (q := 51) (by decide +kernel) (vx_Tk hT (by decide +kernel)) (vx_Tr hT (kd := 9) (by decide +kernel) (by decide +kernel) (by decide +kernel)) ?_
      refine vx_iload (n := 4) (q := 53) (by decide +kernel) rfl ?_
      obtain ⟨k7, H⟩ := H
      refine vx_laload (z := 9) (q := 54) (by decide +kernel) (vx_Tk hT (by decide +kernel)) (vx_Tz hT (by decide +kernel)) (vx_ix k7 (by decide)) ?_
      refine vx_lc_ne (off := 7) (p := 55) (q := 58) (t := 62) (by decide +kernel) (vx_rL_K h 654 ((8 * v2) + v4).toNat) (vx_rL_K h 665 v4.toNat) (fun c8 => ?_) (fun c8 => ?_)
      · replace H := H.1 c8
        refine vx_iconst (n := 0) (q := 63) (by decide +kernel) ?_
        refine vx_istore_n (n := 3) (q := 64) (lv' := [some (.ref 625), some (.int (vx_i v1)), some (.int (vx_i v2)), some (.int (vx_i 0)), some (.int (vx_i v4))]) (by decide +kernel) rfl ?_
        refine vx_iinc (n := 4) (m := 1) (x := v4) (q := 67) (lv' := [some (.ref 625), some (.int (vx_i v1)), some (.int (vx_i v2)), some (.int (vx_i 0)), some (.int (vx_i (v4 + 1)))]) (by decide +kernel) rfl rfl ?_
        refine vx_goto (off := (-42)) (q := 70) (t := 25) (by decide +kernel) ?_
        exact H
      · replace H := H.2 c8
        refine vx_iconst (n := 1) (q := 59) (by decide +kernel) ?_
        refine vx_goto (off := 4) (q := 62) (t := 63) (by decide +kernel) ?_
        refine vx_istore_n (n := 3) (q := 64) (lv' := [some (.ref 625), some (.int (vx_i v1)), some (.int (vx_i v2)), some (.int (vx_i 1)), some (.int (vx_i v4))]) (by decide +kernel) rfl ?_
        refine vx_iinc (n := 4) (m := 1) (x := v4) (q := 67) (lv' := [some (.ref 625), some (.int (vx_i v1)), some (.int (vx_i v2)), some (.int (vx_i 1)), some (.int (vx_i (v4 + 1)))]) (by decide +kernel) rfl rfl ?_
        refine vx_goto (off := (-42)) (q := 70) (t := 25) (by decide +kernel) ?_
        exact H
theorem vg_92_110 {d : Nat} {h : ve_H} {P : ve_H → Prop} {v1 : Int} {v2 : Int} {v3 : Option Value} {v4 : Option Value} (hT : vx_T 625 672 h) (H : (vx_rI v2) ∧ (vx_rI v1) ∧ ((v1 ≤ v2 → (∀ h4, h4 = vx_sJ h 625 78 ((vx_J h 625 78) + 1) → vx_T 625 672 h4 → P h4)) ∧ (v2 < v1 → (0 ≤ v2 ∧ v2 < 9) ∧ (0 ≤ ((8 * (vx_J h 625 78)) + v2) ∧ ((8 * (vx_J h 625 78)) + v2) < 1700) ∧ (∀ h7, h7 = vx_sK h 654 ((8 * (vx_J h 625 78)) + v2).toNat (vx_K h 665 v2.toNat) → vx_T 625 672 h7 → vx_W d 92 110 [some (.ref 625), some (.int (vx_i v1)), some (.int (vx_i (v2 + 1))), v3, v4] [] h7 (vx_RV P))))) : vx_W d 92 110 [some (.ref 625), some (.int (vx_i v1)), some (.int (vx_i v2)), v3, v4] [] h (vx_RV P) := by
  refine vx_iload_n (n := 2) (q := 111) (by decide +kernel) rfl ?_
  refine vx_iload_n (n := 1) (q := 112) (by decide +kernel) rfl ?_
  obtain ⟨k1, H⟩ := H
  obtain ⟨k2, H⟩ := H
  refine vx_icmp_ge (off := 29) (q := 115) (t := 141) (by decide +kernel) k1 k2 (fun c3 => ?_) (fun c3 => ?_)
  · replace H := H.1 c3
    refine vx_aload_n (n := 0) (q := 142) (by decide +kernel) rfl ?_
    refine vx_dupR (q := 143) (by decide +kernel) ?_
    refine vx_getI (idx := 474) (kd := 9) (s := 78) (fin := false) (q := 146) (by decide +kernel) (vx_Tk hT (by decide +kernel)) ?_
    refine vx_iconst (n := 1) (q := 147) (by decide +kernel) ?_
    refine vx_iadd (q := 148) (by decide +kernel) ?_
    refine vx_putI (idx := 474) (kd := 9) (s := 78) (fin := false) (q := 151) (by decide +kernel) (vx_Tk hT (by decide +kernel)) (fun h4 e4 => ?_)
    have hT4 := vx_TJ hT e4
    replace H := H h4 e4 hT4
    refine vx_retV (q := 152) (by decide +kernel) ?_
    exact H
  · replace H := H.2 c3
    refine vx_aload_n (n := 0) (q := 116) (by decide +kernel) rfl ?_
    refine vx_getR (b := 654) (idx := 99) (kd := 9) (s := 41) (fin := true) (q := 119) (by decide +kernel) (vx_Tk hT (by decide +kernel)) (vx_Tr hT (kd := 9) (by decide +kernel) (by decide +kernel) (by decide +kernel)) ?_
    refine vx_bipush (n := 8) (q := 121) (by decide +kernel) ?_
    refine vx_aload_n (n := 0) (q := 122) (by decide +kernel) rfl ?_
    refine vx_getI (idx := 474) (kd := 9) (s := 78) (fin := false) (q := 125) (by decide +kernel) (vx_Tk hT (by decide +kernel)) ?_
    refine vx_imul (q := 126) (by decide +kernel) ?_
    refine vx_iload_n (n := 2) (q := 127) (by decide +kernel) rfl ?_
    refine vx_iadd (q := 128) (by decide +kernel) ?_
    refine vx_aload_n (n := 0) (q := 129) (by decide +kernel) rfl ?_
    refine vx_getR (b := 665) (idx := 133) (kd := 9) (s := 64) (fin := true) (q := 132) (by decide +kernel) (vx_Tk hT (by decide +kernel)) (vx_Tr hT (kd := 9) (by decide +kernel) (by decide +kernel) (by decide +kernel)) ?_
    refine vx_iload_n (n := 2) (q := 133) (by decide +kernel) rfl ?_
    obtain ⟨k5, H⟩ := H
    refine vx_laload (z := 9) (q := 134) (by decide +kernel) (vx_Tk hT (by decide +kernel)) (vx_Tz hT (by decide +kernel)) (vx_ix k5 (by decide)) ?_
    obtain ⟨k6, H⟩ := H
    refine vx_lastore (z := 1700) (q := 135) (by decide +kernel) (vx_Tk hT (by decide +kernel)) (vx_Tz hT (by decide +kernel)) (vx_ix k6 (by decide)) (fun h7 e7 => ?_)
    have hT7 := vx_TK hT e7
    replace H := H h7 e7 hT7
    refine vx_iinc (n := 2) (m := 1) (x := v2) (q := 138) (lv' := [some (.ref 625), some (.int (vx_i v1)), some (.int (vx_i (v2 + 1))), v3, v4]) (by decide +kernel) rfl rfl ?_
    refine vx_goto (off := (-28)) (q := 141) (t := 110) (by decide +kernel) ?_
    exact H
-- RuleHouseModel.isAhead(II)Z
theorem vg_93 {d : Nat} {h : ve_H} {P : Int → ve_H → Prop} {x1 : Int} {x2 : Int} (hT : vx_T 625 672 h) (H : vx_W (d + 1) 93 2 [some (.ref 625), some (.int (vx_i x1)), some (.int (vx_i x2)), some (.int (vx_i 0)), none] [] h (vx_RI P)) : vx_CI (d + 1) 93 [.ref 625, .int (vx_i x1), .int (vx_i x2)] h P := by
  refine vx_enter (ml := 5) (by decide +kernel) ?_
  show vx_W _ _ 0 [some (.ref 625), some (.int (vx_i x1)), some (.int (vx_i x2)), none, none] [] h _
  refine vx_iconst (n := 0) (q := 1) (by decide +kernel) ?_
  refine vx_istore_n (n := 3) (q := 2) (lv' := [some (.ref 625), some (.int (vx_i x1)), some (.int (vx_i x2)), some (.int (vx_i 0)), none]) (by decide +kernel) rfl ?_
  exact H
theorem vg_93_2 {d : Nat} {h : ve_H} {P : Int → ve_H → Prop} {v1 : Int} {v2 : Int} {v3 : Int} {v4 : Option Value} (hT : vx_T 625 672 h) (H : (vx_rI v3) ∧ (((vx_J h 625 39) ≤ v3 → P 0 h) ∧ (v3 < (vx_J h 625 39) → (0 ≤ ((8 * v1) + v3) ∧ ((8 * v1) + v3) < 1700) ∧ (0 ≤ ((8 * v2) + v3) ∧ ((8 * v2) + v3) < 1700) ∧ vx_CI d 67 [.long (vx_l (vx_K h 654 ((8 * v1) + v3).toNat)), .long (vx_l (vx_K h 654 ((8 * v2) + v3).toNat))] h (fun r5 h5 => vx_T 625 672 h5 → ((r5 = 0 → vx_W (d + 1) 93 2 [some (.ref 625), some (.int (vx_i v1)), some (.int (vx_i v2)), some (.int (vx_i (v3 + 1))), some (.int (vx_i r5))] [] h5 (vx_RI P)) ∧ (r5 ≠ 0 → ((0 ≤ r5 → P 0 h5) ∧ (r5 < 0 → P 1 h5)))))))) : vx_W (d + 1) 93 2 [some (.ref 625), some (.int (vx_i v1)), some (.int (vx_i v2)), some (.int (vx_i v3)), v4] [] h (vx_RI P) := by
  refine vx_iload_n (n := 3) (q := 3) (by decide +kernel) rfl ?_
  refine vx_aload_n (n := 0) (q := 4) (by decide +kernel) rfl ?_
  refine vx_getI (idx := 477) (kd := 9) (s := 39) (fin := false) (q := 7) (by decide +kernel) (vx_Tk hT (by decide +kernel)) ?_
  obtain ⟨k1, H⟩ := H
  refine vx_icmp_ge (off := 52) (q := 10) (t := 59) (by decide +kernel) k1 (vx_rI_J h 625 39) (fun c2 => ?_) (fun c2 => ?_)
  · replace H := H.1 c2
    refine vx_iconst (n := 0) (q := 60) (by decide +kernel) ?_
    refine vx_retZ (q := 61) (by decide +kernel) (Or.inl rfl) ?_
    exact H
  · replace H := H.2 c2
    refine vx_aload_n (n := 0) (q := 11) (by decide +kernel) rfl ?_
    refine vx_getR (b := 654) (idx := 99) (kd := 9) (s := 41) (fin := true) (q := 14) (by decide +kernel) (vx_Tk hT (by decide +kernel)) (vx_Tr hT (kd := 9) (by decide +kernel) (by decide +kernel) (by decide +kernel)) ?_
    refine vx_bipush (n := 8) (q := 16) (by decide +kernel) ?_
    refine vx_iload_n (n := 1) (q := 17) (by decide +kernel) rfl ?_
    refine vx_imul (q := 18) (by decide +kernel) ?_
    refine vx_iload_n (n := 3) (q := 19) (by decide +kernel) rfl ?_
    refine vx_iadd (q := 20) (by decide +kernel) ?_
    obtain ⟨k3, H⟩ := H
    refine vx_laload (z := 1700) (q := 21) (by decide +kernel) (vx_Tk hT (by decide +kernel)) (vx_Tz hT (by decide +kernel)) (vx_ix k3 (by decide)) ?_
    refine vx_aload_n (n := 0) (q := 22) (by decide +kernel) rfl ?_
    refine vx_getR (b := 654) (idx := 99) (kd := 9) (s := 41) (fin := true) (q := 25) (by decide +kernel) (vx_Tk hT (by decide +kernel)) (vx_Tr hT (kd := 9) (by decide +kernel) (by decide +kernel) (by decide +kernel)) ?_
    refine vx_bipush (n := 8) (q := 27) (by decide +kernel) ?_
    refine vx_iload_n (n := 2) (q := 28) (by decide +kernel) rfl ?_
    refine vx_imul (q := 29) (by decide +kernel) ?_
    refine vx_iload_n (n := 3) (q := 30) (by decide +kernel) rfl ?_
    refine vx_iadd (q := 31) (by decide +kernel) ?_
    obtain ⟨k4, H⟩ := H
    refine vx_laload (z := 1700) (q := 32) (by decide +kernel) (vx_Tk hT (by decide +kernel)) (vx_Tz hT (by decide +kernel)) (vx_ix k4 (by decide)) ?_
    refine vx_callI (i := .invokestatic 375) (how := 4) (cm := 67) (np := 2) (q := 35) (args := [.long (vx_l (vx_K h 654 ((8 * v1) + v3).toNat)), .long (vx_l (vx_K h 654 ((8 * v2) + v3).toNat))]) (rest := []) (by decide +kernel) rfl rfl rfl (vx_w2 (w := 4) (ml := 8) rfl (by decide +kernel)) rfl H (fun r5 h5 hr5 hs5 H => ?_)
    have hT5 := vx_Tsh hT hs5
    replace H := H hT5
    refine vx_istore (n := 4) (q := 37) (lv' := [some (.ref 625), some (.int (vx_i v1)), some (.int (vx_i v2)), some (.int (vx_i v3)), some (.int (vx_i r5))]) (by decide +kernel) rfl ?_
    refine vx_iload (n := 4) (q := 39) (by decide +kernel) rfl ?_
    refine vx_if0_eq (off := 14) (q := 42) (t := 53) (by decide +kernel) hr5 (fun c6 => ?_) (fun c6 => ?_)
    · replace H := H.1 c6
      refine vx_iinc (n := 3) (m := 1) (x := v3) (q := 56) (lv' := [some (.ref 625), some (.int (vx_i v1)), some (.int (vx_i v2)), some (.int (vx_i (v3 + 1))), some (.int (vx_i r5))]) (by decide +kernel) rfl rfl ?_
      refine vx_goto (off := (-54)) (q := 59) (t := 2) (by decide +kernel) ?_
      exact H
    · replace H := H.2 c6
      refine vx_iload (n := 4) (q := 44) (by decide +kernel) rfl ?_
      refine vx_if0_ge (off := 7) (q := 47) (t := 51) (by decide +kernel) hr5 (fun c7 => ?_) (fun c7 => ?_)
      · replace H := H.1 c7
        refine vx_iconst (n := 0) (q := 52) (by decide +kernel) ?_
        refine vx_retZ (q := 53) (by decide +kernel) (Or.inl rfl) ?_
        exact H
      · replace H := H.2 c7
        refine vx_iconst (n := 1) (q := 48) (by decide +kernel) ?_
        refine vx_goto (off := 4) (q := 51) (t := 52) (by decide +kernel) ?_
        refine vx_retZ (q := 53) (by decide +kernel) (Or.inr rfl) ?_
        exact H
-- RuleHouseModel.letters(J)I
theorem vg_98 {d : Nat} {h : ve_H} {P : Int → ve_H → Prop} {x1 : Int} (hT : vx_T 625 672 h) (H : vx_W d 98 4 [some (.long (vx_l x1)), none, some (.int (vx_i 0)), some (.long (vx_l x1)), none] [] h (vx_RI P)) : vx_CI d 98 [.long (vx_l x1)] h P := by
  refine vx_enter (ml := 5) (by decide +kernel) ?_
  show vx_W _ _ 0 [some (.long (vx_l x1)), none, none, none, none] [] h _
  refine vx_iconst (n := 0) (q := 1) (by decide +kernel) ?_
  refine vx_istore_n (n := 2) (q := 2) (lv' := [some (.long (vx_l x1)), none, some (.int (vx_i 0)), none, none]) (by decide +kernel) rfl ?_
  refine vx_lload_n (n := 0) (q := 3) (by decide +kernel) rfl ?_
  refine vx_lstore_n (n := 3) (q := 4) (lv' := [some (.long (vx_l x1)), none, some (.int (vx_i 0)), some (.long (vx_l x1)), none]) (by decide +kernel) rfl ?_
  exact H
theorem vg_98_4 {d : Nat} {h : ve_H} {P : Int → ve_H → Prop} {v0 : Int} {v2 : Int} {v3 : Int} (hT : vx_T 625 672 h) (H : (vx_rL v3) ∧ ((v3 ≤ 0 → (vx_rI v2) ∧ P v2 h) ∧ (0 < v3 → vx_W d 98 4 [some (.long (vx_l v0)), none, some (.int (vx_i (v2 + 1))), some (.long (vx_l (vx_lshr v3 8))), none] [] h (vx_RI P)))) : vx_W d 98 4 [some (.long (vx_l v0)), none, some (.int (vx_i v2)), some (.long (vx_l v3)), none] [] h (vx_RI P) := by
  refine vx_lload_n (n := 3) (q := 5) (by decide +kernel) rfl ?_
  refine vx_lconst (n := 0) (m := 0) (q := 6) (by decide +kernel) ?_
  obtain ⟨k1, H⟩ := H
  refine vx_lc_le (off := 14) (p := 7) (q := 10) (t := 21) (by decide +kernel) k1 (by decide) (fun c2 => ?_) (fun c2 => ?_)
  · replace H := H.1 c2
    refine vx_iload_n (n := 2) (q := 22) (by decide +kernel) rfl ?_
    obtain ⟨k3, H⟩ := H
    refine vx_retI (q := 23) (by decide +kernel) k3 ?_
    exact H
  · replace H := H.2 c2
    refine vx_iinc (n := 2) (m := 1) (x := v2) (q := 13) (lv' := [some (.long (vx_l v0)), none, some (.int (vx_i (v2 + 1))), some (.long (vx_l v3)), none]) (by decide +kernel) rfl rfl ?_
    refine vx_lload_n (n := 3) (q := 14) (by decide +kernel) rfl ?_
    refine vx_bipush (n := 8) (q := 16) (by decide +kernel) ?_
    refine vx_lshr1 (q := 17) (by decide +kernel) ?_
    refine vx_lstore_n (n := 3) (q := 18) (lv' := [some (.long (vx_l v0)), none, some (.int (vx_i (v2 + 1))), some (.long (vx_l (vx_lshr v3 8))), none]) (by decide +kernel) rfl ?_
    refine vx_goto (off := (-14)) (q := 21) (t := 4) (by decide +kernel) ?_
    exact H
-- RuleHouseModel.isTupleAhead(II)Z
theorem vg_100 {d : Nat} {h : ve_H} {P : Int → ve_H → Prop} {x1 : Int} {x2 : Int} (hT : vx_T 625 672 h) (H : vx_W (d + 1) 100 2 [some (.ref 625), some (.int (vx_i x1)), some (.int (vx_i x2)), some (.int (vx_i 0)), none] [] h (vx_RI P)) : vx_CI (d + 1) 100 [.ref 625, .int (vx_i x1), .int (vx_i x2)] h P := by
  refine vx_enter (ml := 5) (by decide +kernel) ?_
  show vx_W _ _ 0 [some (.ref 625), some (.int (vx_i x1)), some (.int (vx_i x2)), none, none] [] h _
  refine vx_iconst (n := 0) (q := 1) (by decide +kernel) ?_
  refine vx_istore_n (n := 3) (q := 2) (lv' := [some (.ref 625), some (.int (vx_i x1)), some (.int (vx_i x2)), some (.int (vx_i 0)), none]) (by decide +kernel) rfl ?_
  exact H
theorem vg_100_2 {d : Nat} {h : ve_H} {P : Int → ve_H → Prop} {v1 : Int} {v2 : Int} {v3 : Int} {v4 : Option Value} (hT : vx_T 625 672 h) (H : (0 ≤ v1 ∧ v1 < 260) ∧ vx_CI d 83 [.ref 625, .int (vx_i (vx_J h 650 v1.toNat))] h (fun r2 h2 => vx_T 625 672 h2 → (vx_rI v3) ∧ ((r2 ≤ v3 → P 0 h2) ∧ (v3 < r2 → (0 ≤ ((4 * v1) + v3) ∧ ((4 * v1) + v3) < 1040) ∧ (0 ≤ ((4 * v2) + v3) ∧ ((4 * v2) + v3) < 1040) ∧ vx_CI d 67 [.long (vx_l (vx_K h2 652 ((4 * v1) + v3).toNat)), .long (vx_l (vx_K h2 652 ((4 * v2) + v3).toNat))] h2 (fun r7 h7 => vx_T 625 672 h7 → ((r7 = 0 → vx_W (d + 1) 100 2 [some (.ref 625), some (.int (vx_i v1)), some (.int (vx_i v2)), some (.int (vx_i (v3 + 1))), some (.int (vx_i r7))] [] h7 (vx_RI P)) ∧ (r7 ≠ 0 → ((0 ≤ r7 → P 0 h7) ∧ (r7 < 0 → P 1 h7))))))))) : vx_W (d + 1) 100 2 [some (.ref 625), some (.int (vx_i v1)), some (.int (vx_i v2)), some (.int (vx_i v3)), v4] [] h (vx_RI P) := by
  refine vx_iload_n (n := 3) (q := 3) (by decide +kernel) rfl ?_
  refine vx_aload_n (n := 0) (q := 4) (by decide +kernel) rfl ?_
  refine vx_aload_n (n := 0) (q := 5) (by decide +kernel) rfl ?_
  refine vx_getR (b := 650) (idx := 87) (kd := 9) (s := 33) (fin := true) (q := 8) (by decide +kernel) (vx_Tk hT (by decide +kernel)) (vx_Tr hT (kd := 9) (by decide +kernel) (by decide +kernel) (by decide +kernel)) ?_
  refine vx_iload_n (n := 1) (q := 9) (by decide +kernel) rfl ?_
  obtain ⟨k1, H⟩ := H
  refine vx_iaload (z := 260) (q := 10) (by decide +kernel) (vx_Tk hT (by decide +kernel)) (vx_Tz hT (by decide +kernel)) (vx_ix k1 (by decide)) ?_
  refine vx_callI (i := .invokevirtual 440) (how := 3) (cm := 83) (np := 2) (q := 13) (args := [.ref 625, .int (vx_i (vx_J h 650 v1.toNat))]) (rest := [.int (vx_i v3)]) (by decide +kernel) rfl rfl rfl (vx_w2 (w := 2) (ml := 2) rfl (by decide +kernel)) (vx_rcv (kd := 9) (vx_Tk hT (by decide +kernel)) (by decide +kernel)) H (fun r2 h2 hr2 hs2 H => ?_)
  have hT2 := vx_Tsh hT hs2
  replace H := H hT2
  obtain ⟨k3, H⟩ := H
  refine vx_icmp_ge (off := 50) (q := 16) (t := 63) (by decide +kernel) k3 hr2 (fun c4 => ?_) (fun c4 => ?_)
  · replace H := H.1 c4
    refine vx_iconst (n := 0) (q := 64) (by decide +kernel) ?_
    refine vx_retZ (q := 65) (by decide +kernel) (Or.inl rfl) ?_
    exact H
  · replace H := H.2 c4
    refine vx_aload_n (n := 0) (q := 17) (by decide +kernel) rfl ?_
    refine vx_getR (b := 652) (idx := 93) (kd := 9) (s := 35) (fin := true) (q := 20) (by decide +kernel) (vx_Tk hT2 (by decide +kernel)) (vx_Tr hT2 (kd := 9) (by decide +kernel) (by decide +kernel) (by decide +kernel)) ?_
    refine vx_iconst (n := 4) (q := 21) (by decide +kernel) ?_
    refine vx_iload_n (n := 1) (q := 22) (by decide +kernel) rfl ?_
    refine vx_imul (q := 23) (by decide +kernel) ?_
    refine vx_iload_n (n := 3) (q := 24) (by decide +kernel) rfl ?_
    refine vx_iadd (q := 25) (by decide +kernel) ?_
    obtain ⟨k5, H⟩ := H
    refine vx_laload (z := 1040) (q := 26) (by decide +kernel) (vx_Tk hT2 (by decide +kernel)) (vx_Tz hT2 (by decide +kernel)) (vx_ix k5 (by decide)) ?_
    refine vx_aload_n (n := 0) (q := 27) (by decide +kernel) rfl ?_
    refine vx_getR (b := 652) (idx := 93) (kd := 9) (s := 35) (fin := true) (q := 30) (by decide +kernel) (vx_Tk hT2 (by decide +kernel)) (vx_Tr hT2 (kd := 9) (by decide +kernel) (by decide +kernel) (by decide +kernel)) ?_
    refine vx_iconst (n := 4) (q := 31) (by decide +kernel) ?_
    refine vx_iload_n (n := 2) (q := 32) (by decide +kernel) rfl ?_
    refine vx_imul (q := 33) (by decide +kernel) ?_
    refine vx_iload_n (n := 3) (q := 34) (by decide +kernel) rfl ?_
    refine vx_iadd (q := 35) (by decide +kernel) ?_
    obtain ⟨k6, H⟩ := H
    refine vx_laload (z := 1040) (q := 36) (by decide +kernel) (vx_Tk hT2 (by decide +kernel)) (vx_Tz hT2 (by decide +kernel)) (vx_ix k6 (by decide)) ?_
    refine vx_callI (i := .invokestatic 375) (how := 4) (cm := 67) (np := 2) (q := 39) (args := [.long (vx_l (vx_K h2 652 ((4 * v1) + v3).toNat)), .long (vx_l (vx_K h2 652 ((4 * v2) + v3).toNat))]) (rest := []) (by decide +kernel) rfl rfl rfl (vx_w2 (w := 4) (ml := 8) rfl (by decide +kernel)) rfl H (fun r7 h7 hr7 hs7 H => ?_)
    have hT7 := vx_Tsh hT2 hs7
    replace H := H hT7
    refine vx_istore (n := 4) (q := 41) (lv' := [some (.ref 625), some (.int (vx_i v1)), some (.int (vx_i v2)), some (.int (vx_i v3)), some (.int (vx_i r7))]) (by decide +kernel) rfl ?_
    refine vx_iload (n := 4) (q := 43) (by decide +kernel) rfl ?_
    refine vx_if0_eq (off := 14) (q := 46) (t := 57) (by decide +kernel) hr7 (fun c8 => ?_) (fun c8 => ?_)
    · replace H := H.1 c8
      refine vx_iinc (n := 3) (m := 1) (x := v3) (q := 60) (lv' := [some (.ref 625), some (.int (vx_i v1)), some (.int (vx_i v2)), some (.int (vx_i (v3 + 1))), some (.int (vx_i r7))]) (by decide +kernel) rfl rfl ?_
      refine vx_goto (off := (-58)) (q := 63) (t := 2) (by decide +kernel) ?_
      exact H
    · replace H := H.2 c8
      refine vx_iload (n := 4) (q := 48) (by decide +kernel) rfl ?_
      refine vx_if0_ge (off := 7) (q := 51) (t := 55) (by decide +kernel) hr7 (fun c9 => ?_) (fun c9 => ?_)
      · replace H := H.1 c9
        refine vx_iconst (n := 0) (q := 56) (by decide +kernel) ?_
        refine vx_retZ (q := 57) (by decide +kernel) (Or.inl rfl) ?_
        exact H
      · replace H := H.2 c9
        refine vx_iconst (n := 1) (q := 52) (by decide +kernel) ?_
        refine vx_goto (off := 4) (q := 55) (t := 56) (by decide +kernel) ?_
        refine vx_retZ (q := 57) (by decide +kernel) (Or.inr rfl) ?_
        exact H
