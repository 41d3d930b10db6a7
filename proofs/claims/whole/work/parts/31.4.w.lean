/-! Printed by my own program (wip/whole/gen_seg.py): walks of methods 32-41,43,44 -/
-- RuleHouseModel.wrong(I)Z
theorem vg_32 {d : Nat} {h : ve_H} {P : Int → ve_H → Prop} {x1 : Int} (hT : vx_T 625 672 h) (H : (((vx_J h 625 3) = 1 → P 0 h) ∧ ((vx_J h 625 3) ≠ 1 → (∀ h2, h2 = vx_sJ h 625 3 1 → vx_T 625 672 h2 → (∀ h3, h3 = vx_sJ h2 625 4 x1 → vx_T 625 672 h3 → P 0 h3))))) : vx_CI d 32 [.ref 625, .int (vx_i x1)] h P := by
  refine vx_enter (ml := 2) (by decide +kernel) ?_
  show vx_W _ _ 0 [some (.ref 625), some (.int (vx_i x1))] [] h _
  refine vx_aload_n (n := 0) (q := 1) (by decide +kernel) rfl ?_
  refine vx_getI (idx := 201) (kd := 9) (s := 3) (fin := false) (q := 4) (by decide +kernel) (vx_Tk hT (by decide +kernel)) ?_
  refine vx_iconst (n := 1) (q := 5) (by decide +kernel) ?_
  refine vx_icmp_eq (off := 13) (q := 8) (t := 18) (by decide +kernel) (vx_rI_J h 625 3) (by decide) (fun c1 => ?_) (fun c1 => ?_)
  · replace H := H.1 c1
    refine vx_iconst (n := 0) (q := 19) (by decide +kernel) ?_
    refine vx_retZ (q := 20) (by decide +kernel) (Or.inl rfl) ?_
    exact H
  · replace H := H.2 c1
    refine vx_aload_n (n := 0) (q := 9) (by decide +kernel) rfl ?_
    refine vx_iconst (n := 1) (q := 10) (by decide +kernel) ?_
    refine vx_putI (idx := 201) (kd := 9) (s := 3) (fin := false) (q := 13) (by decide +kernel) (vx_Tk hT (by decide +kernel)) (fun h2 e2 => ?_)
    have hT2 := vx_TJ hT e2
    replace H := H h2 e2 hT2
    refine vx_aload_n (n := 0) (q := 14) (by decide +kernel) rfl ?_
    refine vx_iload_n (n := 1) (q := 15) (by decide +kernel) rfl ?_
    refine vx_putI (idx := 204) (kd := 9) (s := 4) (fin := false) (q := 18) (by decide +kernel) (vx_Tk hT2 (by decide +kernel)) (fun h3 e3 => ?_)
    have hT3 := vx_TJ hT2 e3
    replace H := H h3 e3 hT3
    refine vx_iconst (n := 0) (q := 19) (by decide +kernel) ?_
    refine vx_retZ (q := 20) (by decide +kernel) (Or.inl rfl) ?_
    exact H
-- RuleHouseModel.refuse()Z
theorem vg_33 {d : Nat} {h : ve_H} {P : Int → ve_H → Prop}  (hT : vx_T 625 672 h) (H : (0 ≤ (vx_J h 625 10) ∧ (vx_J h 625 10) < 602) ∧ vx_CI d 32 [.ref 625, .int (vx_i (vx_J h 628 (vx_J h 625 10).toNat))] h (fun r2 h2 => vx_T 625 672 h2 → (r2 = 0 ∨ r2 = 1) ∧ P r2 h2)) : vx_CI (d + 1) 33 [.ref 625] h P := by
  refine vx_enter (ml := 1) (by decide +kernel) ?_
  show vx_W _ _ 0 [some (.ref 625)] [] h _
  refine vx_aload_n (n := 0) (q := 1) (by decide +kernel) rfl ?_
  refine vx_aload_n (n := 0) (q := 2) (by decide +kernel) rfl ?_
  refine vx_getR (b := 628) (idx := 16) (kd := 9) (s := 7) (fin := true) (q := 5) (by decide +kernel) (vx_Tk hT (by decide +kernel)) (vx_Tr hT (kd := 9) (by decide +kernel) (by decide +kernel) (by decide +kernel)) ?_
  refine vx_aload_n (n := 0) (q := 6) (by decide +kernel) rfl ?_
  refine vx_getI (idx := 207) (kd := 9) (s := 10) (fin := false) (q := 9) (by decide +kernel) (vx_Tk hT (by decide +kernel)) ?_
  obtain ⟨k1, H⟩ := H
  refine vx_iaload (z := 602) (q := 10) (by decide +kernel) (vx_Tk hT (by decide +kernel)) (vx_Tz hT (by decide +kernel)) (vx_ix k1 (by decide)) ?_
  refine vx_callI (i := .invokevirtual 210) (how := 3) (cm := 32) (np := 2) (q := 13) (args := [.ref 625, .int (vx_i (vx_J h 628 (vx_J h 625 10).toNat))]) (rest := []) (by decide +kernel) rfl rfl rfl (vx_w2 (w := 2) (ml := 2) rfl (by decide +kernel)) (vx_rcv (kd := 9) (vx_Tk hT (by decide +kernel)) (by decide +kernel)) H (fun r2 h2 hr2 hs2 H => ?_)
  have hT2 := vx_Tsh hT hs2
  replace H := H hT2
  obtain ⟨k3, H⟩ := H
  refine vx_retZ (q := 14) (by decide +kernel) k3 ?_
  exact H
-- RuleHouseModel.isSign(I)Z
theorem vg_34 {d : Nat} {h : ve_H} {P : Int → ve_H → Prop} {x1 : Int} (hT : vx_T 625 672 h) (H : (0 ≤ (vx_J h 625 10) ∧ (vx_J h 625 10) < 602) ∧ (((vx_J h 627 (vx_J h 625 10).toNat) ≠ 4 → P 0 h) ∧ ((vx_J h 627 (vx_J h 625 10).toNat) = 4 → (0 ≤ (vx_J h 625 10) ∧ (vx_J h 625 10) < 602) ∧ (vx_rI x1) ∧ (((vx_J h 629 (vx_J h 625 10).toNat) ≠ x1 → P 0 h) ∧ ((vx_J h 629 (vx_J h 625 10).toNat) = x1 → P 1 h))))) : vx_CI d 34 [.ref 625, .int (vx_i x1)] h P := by
  refine vx_enter (ml := 2) (by decide +kernel) ?_
  show vx_W _ _ 0 [some (.ref 625), some (.int (vx_i x1))] [] h _
  refine vx_aload_n (n := 0) (q := 1) (by decide +kernel) rfl ?_
  refine vx_getR (b := 627) (idx := 13) (kd := 9) (s := 6) (fin := true) (q := 4) (by decide +kernel) (vx_Tk hT (by decide +kernel)) (vx_Tr hT (kd := 9) (by decide +kernel) (by decide +kernel) (by decide +kernel)) ?_
  refine vx_aload_n (n := 0) (q := 5) (by decide +kernel) rfl ?_
  refine vx_getI (idx := 207) (kd := 9) (s := 10) (fin := false) (q := 8) (by decide +kernel) (vx_Tk hT (by decide +kernel)) ?_
  obtain ⟨k1, H⟩ := H
  refine vx_iaload (z := 602) (q := 9) (by decide +kernel) (vx_Tk hT (by decide +kernel)) (vx_Tz hT (by decide +kernel)) (vx_ix k1 (by decide)) ?_
  refine vx_iconst (n := 4) (q := 10) (by decide +kernel) ?_
  refine vx_icmp_ne (off := 20) (q := 13) (t := 30) (by decide +kernel) (vx_rI_J h 627 (vx_J h 625 10).toNat) (by decide) (fun c2 => ?_) (fun c2 => ?_)
  · replace H := H.1 c2
    refine vx_iconst (n := 0) (q := 31) (by decide +kernel) ?_
    refine vx_retZ (q := 32) (by decide +kernel) (Or.inl rfl) ?_
    exact H
  · replace H := H.2 c2
    refine vx_aload_n (n := 0) (q := 14) (by decide +kernel) rfl ?_
    refine vx_getR (b := 629) (idx := 19) (kd := 9) (s := 8) (fin := true) (q := 17) (by decide +kernel) (vx_Tk hT (by decide +kernel)) (vx_Tr hT (kd := 9) (by decide +kernel) (by decide +kernel) (by decide +kernel)) ?_
    refine vx_aload_n (n := 0) (q := 18) (by decide +kernel) rfl ?_
    refine vx_getI (idx := 207) (kd := 9) (s := 10) (fin := false) (q := 21) (by decide +kernel) (vx_Tk hT (by decide +kernel)) ?_
    obtain ⟨k3, H⟩ := H
    refine vx_iaload (z := 602) (q := 22) (by decide +kernel) (vx_Tk hT (by decide +kernel)) (vx_Tz hT (by decide +kernel)) (vx_ix k3 (by decide)) ?_
    refine vx_iload_n (n := 1) (q := 23) (by decide +kernel) rfl ?_
    obtain ⟨k4, H⟩ := H
    refine vx_icmp_ne (off := 7) (q := 26) (t := 30) (by decide +kernel) (vx_rI_J h 629 (vx_J h 625 10).toNat) k4 (fun c5 => ?_) (fun c5 => ?_)
    · replace H := H.1 c5
      refine vx_iconst (n := 0) (q := 31) (by decide +kernel) ?_
      refine vx_retZ (q := 32) (by decide +kernel) (Or.inl rfl) ?_
      exact H
    · replace H := H.2 c5
      refine vx_iconst (n := 1) (q := 27) (by decide +kernel) ?_
      refine vx_goto (off := 4) (q := 30) (t := 31) (by decide +kernel) ?_
      refine vx_retZ (q := 32) (by decide +kernel) (Or.inr rfl) ?_
      exact H
-- RuleHouseModel.takes(I)Z
theorem vg_35 {d : Nat} {h : ve_H} {P : Int → ve_H → Prop} {x1 : Int} (hT : vx_T 625 672 h) (H : vx_CI d 34 [.ref 625, .int (vx_i x1)] h (fun r1 h1 => vx_T 625 672 h1 → ((r1 ≠ 0 → (∀ h3, h3 = vx_sJ h1 625 10 ((vx_J h1 625 10) + 1) → vx_T 625 672 h3 → P 1 h3)) ∧ (r1 = 0 → P 0 h1)))) : vx_CI (d + 1) 35 [.ref 625, .int (vx_i x1)] h P := by
  refine vx_enter (ml := 2) (by decide +kernel) ?_
  show vx_W _ _ 0 [some (.ref 625), some (.int (vx_i x1))] [] h _
  refine vx_aload_n (n := 0) (q := 1) (by decide +kernel) rfl ?_
  refine vx_iload_n (n := 1) (q := 2) (by decide +kernel) rfl ?_
  refine vx_callI (i := .invokevirtual 213) (how := 3) (cm := 34) (np := 2) (q := 5) (args := [.ref 625, .int (vx_i x1)]) (rest := []) (by decide +kernel) rfl rfl rfl (vx_w2 (w := 2) (ml := 2) rfl (by decide +kernel)) (vx_rcv (kd := 9) (vx_Tk hT (by decide +kernel)) (by decide +kernel)) H (fun r1 h1 hr1 hs1 H => ?_)
  have hT1 := vx_Tsh hT hs1
  replace H := H hT1
  refine vx_if0_ne (off := 5) (q := 8) (t := 10) (by decide +kernel) hr1 (fun c2 => ?_) (fun c2 => ?_)
  · replace H := H.1 c2
    refine vx_aload_n (n := 0) (q := 11) (by decide +kernel) rfl ?_
    refine vx_dupR (q := 12) (by decide +kernel) ?_
    refine vx_getI (idx := 207) (kd := 9) (s := 10) (fin := false) (q := 15) (by decide +kernel) (vx_Tk hT1 (by decide +kernel)) ?_
    refine vx_iconst (n := 1) (q := 16) (by decide +kernel) ?_
    refine vx_iadd (q := 17) (by decide +kernel) ?_
    refine vx_putI (idx := 207) (kd := 9) (s := 10) (fin := false) (q := 20) (by decide +kernel) (vx_Tk hT1 (by decide +kernel)) (fun h3 e3 => ?_)
    have hT3 := vx_TJ hT1 e3
    replace H := H h3 e3 hT3
    refine vx_iconst (n := 1) (q := 21) (by decide +kernel) ?_
    refine vx_retZ (q := 22) (by decide +kernel) (Or.inr rfl) ?_
    exact H
  · replace H := H.2 c2
    refine vx_iconst (n := 0) (q := 9) (by decide +kernel) ?_
    refine vx_retZ (q := 10) (by decide +kernel) (Or.inl rfl) ?_
    exact H
-- RuleHouseModel.want(I)Z
theorem vg_36 {d : Nat} {h : ve_H} {P : Int → ve_H → Prop} {x1 : Int} (hT : vx_T 625 672 h) (H : vx_CI d 35 [.ref 625, .int (vx_i x1)] h (fun r1 h1 => vx_T 625 672 h1 → ((r1 ≠ 0 → P 1 h1) ∧ (r1 = 0 → vx_CI d 33 [.ref 625] h1 (fun r3 h3 => vx_T 625 672 h3 → ((r3 = 0 → P 0 h3) ∧ (r3 ≠ 0 → P 1 h3))))))) : vx_CI (d + 1) 36 [.ref 625, .int (vx_i x1)] h P := by
  refine vx_enter (ml := 2) (by decide +kernel) ?_
  show vx_W _ _ 0 [some (.ref 625), some (.int (vx_i x1))] [] h _
  refine vx_aload_n (n := 0) (q := 1) (by decide +kernel) rfl ?_
  refine vx_iload_n (n := 1) (q := 2) (by decide +kernel) rfl ?_
  refine vx_callI (i := .invokevirtual 216) (how := 3) (cm := 35) (np := 2) (q := 5) (args := [.ref 625, .int (vx_i x1)]) (rest := []) (by decide +kernel) rfl rfl rfl (vx_w2 (w := 2) (ml := 2) rfl (by decide +kernel)) (vx_rcv (kd := 9) (vx_Tk hT (by decide +kernel)) (by decide +kernel)) H (fun r1 h1 hr1 hs1 H => ?_)
  have hT1 := vx_Tsh hT hs1
  replace H := H hT1
  refine vx_if0_ne (off := 10) (q := 8) (t := 15) (by decide +kernel) hr1 (fun c2 => ?_) (fun c2 => ?_)
  · replace H := H.1 c2
    refine vx_iconst (n := 1) (q := 16) (by decide +kernel) ?_
    refine vx_goto (off := 4) (q := 19) (t := 20) (by decide +kernel) ?_
    refine vx_retZ (q := 21) (by decide +kernel) (Or.inr rfl) ?_
    exact H
  · replace H := H.2 c2
    refine vx_aload_n (n := 0) (q := 9) (by decide +kernel) rfl ?_
    refine vx_callI (i := .invokevirtual 219) (how := 3) (cm := 33) (np := 1) (q := 12) (args := [.ref 625]) (rest := []) (by decide +kernel) rfl rfl rfl (vx_w2 (w := 1) (ml := 1) rfl (by decide +kernel)) (vx_rcv (kd := 9) (vx_Tk hT1 (by decide +kernel)) (by decide +kernel)) H (fun r3 h3 hr3 hs3 H => ?_)
    have hT3 := vx_Tsh hT1 hs3
    replace H := H hT3
    refine vx_if0_eq (off := 7) (q := 15) (t := 19) (by decide +kernel) hr3 (fun c4 => ?_) (fun c4 => ?_)
    · replace H := H.1 c4
      refine vx_iconst (n := 0) (q := 20) (by decide +kernel) ?_
      refine vx_retZ (q := 21) (by decide +kernel) (Or.inl rfl) ?_
      exact H
    · replace H := H.2 c4
      refine vx_iconst (n := 1) (q := 16) (by decide +kernel) ?_
      refine vx_goto (off := 4) (q := 19) (t := 20) (by decide +kernel) ?_
      refine vx_retZ (q := 21) (by decide +kernel) (Or.inr rfl) ?_
      exact H
-- RuleHouseModel.note(II)V
theorem vg_37 {d : Nat} {h : ve_H} {P : ve_H → Prop} {x1 : Int} {x2 : Int} (hT : vx_T 625 672 h) (H : (((vx_J h 625 3) = 1 → P h) ∧ ((vx_J h 625 3) ≠ 1 → (((vx_J h 625 3) = 0 → (∀ h3, h3 = vx_sJ h 625 3 x1 → vx_T 625 672 h3 → (∀ h4, h4 = vx_sJ h3 625 4 x2 → vx_T 625 672 h4 → P h4))) ∧ ((vx_J h 625 3) ≠ 0 → (vx_rI x2) ∧ ((x2 < (vx_J h 625 4) → (∀ h7, h7 = vx_sJ h 625 3 x1 → vx_T 625 672 h7 → (∀ h8, h8 = vx_sJ h7 625 4 x2 → vx_T 625 672 h8 → P h8))) ∧ ((vx_J h 625 4) ≤ x2 → P h))))))) : vx_CV d 37 [.ref 625, .int (vx_i x1), .int (vx_i x2)] h P := by
  refine vx_enter (ml := 3) (by decide +kernel) ?_
  show vx_W _ _ 0 [some (.ref 625), some (.int (vx_i x1)), some (.int (vx_i x2))] [] h _
  refine vx_aload_n (n := 0) (q := 1) (by decide +kernel) rfl ?_
  refine vx_getI (idx := 201) (kd := 9) (s := 3) (fin := false) (q := 4) (by decide +kernel) (vx_Tk hT (by decide +kernel)) ?_
  refine vx_iconst (n := 1) (q := 5) (by decide +kernel) ?_
  refine vx_icmp_eq (off := 18) (q := 8) (t := 23) (by decide +kernel) (vx_rI_J h 625 3) (by decide) (fun c1 => ?_) (fun c1 => ?_)
  · replace H := H.1 c1
    refine vx_retV (q := 24) (by decide +kernel) ?_
    exact H
  · replace H := H.2 c1
    refine vx_aload_n (n := 0) (q := 9) (by decide +kernel) rfl ?_
    refine vx_getI (idx := 201) (kd := 9) (s := 3) (fin := false) (q := 12) (by decide +kernel) (vx_Tk hT (by decide +kernel)) ?_
    refine vx_if0_eq (off := 12) (q := 15) (t := 24) (by decide +kernel) (vx_rI_J h 625 3) (fun c2 => ?_) (fun c2 => ?_)
    · replace H := H.1 c2
      refine vx_aload_n (n := 0) (q := 25) (by decide +kernel) rfl ?_
      refine vx_iload_n (n := 1) (q := 26) (by decide +kernel) rfl ?_
      refine vx_putI (idx := 201) (kd := 9) (s := 3) (fin := false) (q := 29) (by decide +kernel) (vx_Tk hT (by decide +kernel)) (fun h3 e3 => ?_)
      have hT3 := vx_TJ hT e3
      replace H := H h3 e3 hT3
      refine vx_aload_n (n := 0) (q := 30) (by decide +kernel) rfl ?_
      refine vx_iload_n (n := 2) (q := 31) (by decide +kernel) rfl ?_
      refine vx_putI (idx := 204) (kd := 9) (s := 4) (fin := false) (q := 34) (by decide +kernel) (vx_Tk hT3 (by decide +kernel)) (fun h4 e4 => ?_)
      have hT4 := vx_TJ hT3 e4
      replace H := H h4 e4 hT4
      refine vx_retV (q := 35) (by decide +kernel) ?_
      exact H
    · replace H := H.2 c2
      refine vx_aload_n (n := 0) (q := 16) (by decide +kernel) rfl ?_
      refine vx_getI (idx := 204) (kd := 9) (s := 4) (fin := false) (q := 19) (by decide +kernel) (vx_Tk hT (by decide +kernel)) ?_
      refine vx_iload_n (n := 2) (q := 20) (by decide +kernel) rfl ?_
      obtain ⟨k5, H⟩ := H
      refine vx_icmp_gt (off := 4) (q := 23) (t := 24) (by decide +kernel) (vx_rI_J h 625 4) k5 (fun c6 => ?_) (fun c6 => ?_)
      · replace H := H.1 c6
        refine vx_aload_n (n := 0) (q := 25) (by decide +kernel) rfl ?_
        refine vx_iload_n (n := 1) (q := 26) (by decide +kernel) rfl ?_
        refine vx_putI (idx := 201) (kd := 9) (s := 3) (fin := false) (q := 29) (by decide +kernel) (vx_Tk hT (by decide +kernel)) (fun h7 e7 => ?_)
        have hT7 := vx_TJ hT e7
        replace H := H h7 e7 hT7
        refine vx_aload_n (n := 0) (q := 30) (by decide +kernel) rfl ?_
        refine vx_iload_n (n := 2) (q := 31) (by decide +kernel) rfl ?_
        refine vx_putI (idx := 204) (kd := 9) (s := 4) (fin := false) (q := 34) (by decide +kernel) (vx_Tk hT7 (by decide +kernel)) (fun h8 e8 => ?_)
        have hT8 := vx_TJ hT7 e8
        replace H := H h8 e8 hT8
        refine vx_retV (q := 35) (by decide +kernel) ?_
        exact H
      · replace H := H.2 c6
        refine vx_retV (q := 24) (by decide +kernel) ?_
        exact H
-- RuleHouseModel.readVariable()Z
theorem vg_38 {d : Nat} {h : ve_H} {P : Int → ve_H → Prop}  (hT : vx_T 625 672 h) (H : vx_W (d + 1) 38 2 [some (.ref 625), some (.int (vx_i 0))] [] h (vx_RI P)) : vx_CI (d + 1) 38 [.ref 625] h P := by
  refine vx_enter (ml := 2) (by decide +kernel) ?_
  show vx_W _ _ 0 [some (.ref 625), none] [] h _
  refine vx_iconst (n := 0) (q := 1) (by decide +kernel) ?_
  refine vx_istore_n (n := 1) (q := 2) (lv' := [some (.ref 625), some (.int (vx_i 0))]) (by decide +kernel) rfl ?_
  exact H
theorem vg_38_2 {d : Nat} {h : ve_H} {P : Int → ve_H → Prop} {v1 : Int} (hT : vx_T 625 672 h) (H : (0 ≤ (vx_J h 625 42) ∧ (vx_J h 625 42) < 61) ∧ (vx_rI v1) ∧ (((vx_J h 642 (vx_J h 625 42).toNat) ≤ v1 → (0 ≤ (vx_J h 625 42) ∧ (vx_J h 625 42) < 61) ∧ ((v1 ≠ (vx_J h 642 (vx_J h 625 42).toNat) → (∀ h6, h6 = vx_sJ h 625 46 1 → vx_T 625 672 h6 → (∀ h7, h7 = vx_sK h6 625 47 v1 → vx_T 625 672 h7 → (∀ h8, h8 = vx_sJ h7 625 10 ((vx_J h7 625 10) + 1) → vx_T 625 672 h8 → P 1 h8)))) ∧ (v1 = (vx_J h 642 (vx_J h 625 42).toNat) → ((v1 ≠ 8 → (0 ≤ (vx_J h 625 10) ∧ (vx_J h 625 10) < 602) ∧ (0 ≤ v1 ∧ v1 < 9) ∧ (∀ h12, h12 = vx_sK h 655 v1.toNat (vx_K h 630 (vx_J h 625 10).toNat) → vx_T 625 672 h12 → (0 ≤ (vx_J h12 625 10) ∧ (vx_J h12 625 10) < 602) ∧ (0 ≤ v1 ∧ v1 < 9) ∧ (∀ h15, h15 = vx_sJ h12 656 v1.toNat (vx_J h12 628 (vx_J h12 625 10).toNat) → vx_T 625 672 h15 → (0 ≤ (vx_J h15 625 42) ∧ (vx_J h15 625 42) < 61) ∧ (0 ≤ (vx_J h15 625 42) ∧ (vx_J h15 625 42) < 61) ∧ (∀ h18, h18 = vx_sJ h15 642 (vx_J h15 625 42).toNat ((vx_J h15 642 (vx_J h15 625 42).toNat) + 1) → vx_T 625 672 h18 → (∀ h19, h19 = vx_sJ h18 625 46 1 → vx_T 625 672 h19 → (∀ h20, h20 = vx_sK h19 625 47 v1 → vx_T 625 672 h20 → (∀ h21, h21 = vx_sJ h20 625 10 ((vx_J h20 625 10) + 1) → vx_T 625 672 h21 → P 1 h21))))))) ∧ (v1 = 8 → vx_CI d 33 [.ref 625] h (fun r22 h22 => vx_T 625 672 h22 → (r22 = 0 ∨ r22 = 1) ∧ P r22 h22)))))) ∧ (v1 < (vx_J h 642 (vx_J h 625 42).toNat) → (0 ≤ v1 ∧ v1 < 9) ∧ (0 ≤ (vx_J h 625 10) ∧ (vx_J h 625 10) < 602) ∧ (((vx_K h 655 v1.toNat) = (vx_K h 630 (vx_J h 625 10).toNat) → (0 ≤ (vx_J h 625 42) ∧ (vx_J h 625 42) < 61) ∧ (∀ h28, h28 = vx_sJ h 625 46 1 → vx_T 625 672 h28 → (∀ h29, h29 = vx_sK h28 625 47 v1 → vx_T 625 672 h29 → (∀ h30, h30 = vx_sJ h29 625 10 ((vx_J h29 625 10) + 1) → vx_T 625 672 h30 → P 1 h30)))) ∧ ((vx_K h 655 v1.toNat) ≠ (vx_K h 630 (vx_J h 625 10).toNat) → vx_W (d + 1) 38 2 [some (.ref 625), some (.int (vx_i (v1 + 1)))] [] h (vx_RI P)))))) : vx_W (d + 1) 38 2 [some (.ref 625), some (.int (vx_i v1))] [] h (vx_RI P) := by
  refine vx_iload_n (n := 1) (q := 3) (by decide +kernel) rfl ?_
  refine vx_aload_n (n := 0) (q := 4) (by decide +kernel) rfl ?_
  refine vx_getR (b := 642) (idx := 59) (kd := 9) (s := 23) (fin := true) (q := 7) (by decide +kernel) (vx_Tk hT (by decide +kernel)) (vx_Tr hT (kd := 9) (by decide +kernel) (by decide +kernel) (by decide +kernel)) ?_
  refine vx_aload_n (n := 0) (q := 8) (by decide +kernel) rfl ?_
  refine vx_getI (idx := 223) (kd := 9) (s := 42) (fin := false) (q := 11) (by decide +kernel) (vx_Tk hT (by decide +kernel)) ?_
  obtain ⟨k1, H⟩ := H
  refine vx_iaload (z := 61) (q := 12) (by decide +kernel) (vx_Tk hT (by decide +kernel)) (vx_Tz hT (by decide +kernel)) (vx_ix k1 (by decide)) ?_
  obtain ⟨k2, H⟩ := H
  refine vx_icmp_ge (off := 28) (q := 15) (t := 40) (by decide +kernel) k2 (vx_rI_J h 642 (vx_J h 625 42).toNat) (fun c3 => ?_) (fun c3 => ?_)
  · replace H := H.1 c3
    refine vx_iload_n (n := 1) (q := 41) (by decide +kernel) rfl ?_
    refine vx_aload_n (n := 0) (q := 42) (by decide +kernel) rfl ?_
    refine vx_getR (b := 642) (idx := 59) (kd := 9) (s := 23) (fin := true) (q := 45) (by decide +kernel) (vx_Tk hT (by decide +kernel)) (vx_Tr hT (kd := 9) (by decide +kernel) (by decide +kernel) (by decide +kernel)) ?_
    refine vx_aload_n (n := 0) (q := 46) (by decide +kernel) rfl ?_
    refine vx_getI (idx := 223) (kd := 9) (s := 42) (fin := false) (q := 49) (by decide +kernel) (vx_Tk hT (by decide +kernel)) ?_
    obtain ⟨k4, H⟩ := H
    refine vx_iaload (z := 61) (q := 50) (by decide +kernel) (vx_Tk hT (by decide +kernel)) (vx_Tz hT (by decide +kernel)) (vx_ix k4 (by decide)) ?_
    refine vx_icmp_ne (off := 57) (q := 53) (t := 107) (by decide +kernel) k2 (vx_rI_J h 642 (vx_J h 625 42).toNat) (fun c5 => ?_) (fun c5 => ?_)
    · replace H := H.1 c5
      refine vx_aload_n (n := 0) (q := 108) (by decide +kernel) rfl ?_
      refine vx_iconst (n := 1) (q := 109) (by decide +kernel) ?_
      refine vx_putI (idx := 226) (kd := 9) (s := 46) (fin := false) (q := 112) (by decide +kernel) (vx_Tk hT (by decide +kernel)) (fun h6 e6 => ?_)
      have hT6 := vx_TJ hT e6
      replace H := H h6 e6 hT6
      refine vx_aload_n (n := 0) (q := 113) (by decide +kernel) rfl ?_
      refine vx_iload_n (n := 1) (q := 114) (by decide +kernel) rfl ?_
      refine vx_i2l (q := 115) (by decide +kernel) k2 ?_
      refine vx_putL (idx := 229) (kd := 9) (s := 47) (fin := false) (q := 118) (by decide +kernel) (vx_Tk hT6 (by decide +kernel)) (fun h7 e7 => ?_)
      have hT7 := vx_TK hT6 e7
      replace H := H h7 e7 hT7
      refine vx_aload_n (n := 0) (q := 119) (by decide +kernel) rfl ?_
      refine vx_dupR (q := 120) (by decide +kernel) ?_
      refine vx_getI (idx := 207) (kd := 9) (s := 10) (fin := false) (q := 123) (by decide +kernel) (vx_Tk hT7 (by decide +kernel)) ?_
      refine vx_iconst (n := 1) (q := 124) (by decide +kernel) ?_
      refine vx_iadd (q := 125) (by decide +kernel) ?_
      refine vx_putI (idx := 207) (kd := 9) (s := 10) (fin := false) (q := 128) (by decide +kernel) (vx_Tk hT7 (by decide +kernel)) (fun h8 e8 => ?_)
      have hT8 := vx_TJ hT7 e8
      replace H := H h8 e8 hT8
      refine vx_iconst (n := 1) (q := 129) (by decide +kernel) ?_
      refine vx_retZ (q := 130) (by decide +kernel) (Or.inr rfl) ?_
      exact H
    · replace H := H.2 c5
      refine vx_iload_n (n := 1) (q := 54) (by decide +kernel) rfl ?_
      refine vx_bipush (n := 8) (q := 56) (by decide +kernel) ?_
      refine vx_icmp_ne (off := 8) (q := 59) (t := 64) (by decide +kernel) k2 (by decide) (fun c9 => ?_) (fun c9 => ?_)
      · replace H := H.1 c9
        refine vx_aload_n (n := 0) (q := 65) (by decide +kernel) rfl ?_
        refine vx_getR (b := 655) (idx := 102) (kd := 9) (s := 43) (fin := true) (q := 68) (by decide +kernel) (vx_Tk hT (by decide +kernel)) (vx_Tr hT (kd := 9) (by decide +kernel) (by decide +kernel) (by decide +kernel)) ?_
        refine vx_iload_n (n := 1) (q := 69) (by decide +kernel) rfl ?_
        refine vx_aload_n (n := 0) (q := 70) (by decide +kernel) rfl ?_
        refine vx_getR (b := 630) (idx := 22) (kd := 9) (s := 9) (fin := true) (q := 73) (by decide +kernel) (vx_Tk hT (by decide +kernel)) (vx_Tr hT (kd := 9) (by decide +kernel) (by decide +kernel) (by decide +kernel)) ?_
        refine vx_aload_n (n := 0) (q := 74) (by decide +kernel) rfl ?_
        refine vx_getI (idx := 207) (kd := 9) (s := 10) (fin := false) (q := 77) (by decide +kernel) (vx_Tk hT (by decide +kernel)) ?_
        obtain ⟨k10, H⟩ := H
        refine vx_laload (z := 602) (q := 78) (by decide +kernel) (vx_Tk hT (by decide +kernel)) (vx_Tz hT (by decide +kernel)) (vx_ix k10 (by decide)) ?_
        obtain ⟨k11, H⟩ := H
        refine vx_lastore (z := 9) (q := 79) (by decide +kernel) (vx_Tk hT (by decide +kernel)) (vx_Tz hT (by decide +kernel)) (vx_ix k11 (by decide)) (fun h12 e12 => ?_)
        have hT12 := vx_TK hT e12
        replace H := H h12 e12 hT12
        refine vx_aload_n (n := 0) (q := 80) (by decide +kernel) rfl ?_
        refine vx_getR (b := 656) (idx := 105) (kd := 9) (s := 44) (fin := true) (q := 83) (by decide +kernel) (vx_Tk hT12 (by decide +kernel)) (vx_Tr hT12 (kd := 9) (by decide +kernel) (by decide +kernel) (by decide +kernel)) ?_
        refine vx_iload_n (n := 1) (q := 84) (by decide +kernel) rfl ?_
        refine vx_aload_n (n := 0) (q := 85) (by decide +kernel) rfl ?_
        refine vx_getR (b := 628) (idx := 16) (kd := 9) (s := 7) (fin := true) (q := 88) (by decide +kernel) (vx_Tk hT12 (by decide +kernel)) (vx_Tr hT12 (kd := 9) (by decide +kernel) (by decide +kernel) (by decide +kernel)) ?_
        refine vx_aload_n (n := 0) (q := 89) (by decide +kernel) rfl ?_
        refine vx_getI (idx := 207) (kd := 9) (s := 10) (fin := false) (q := 92) (by decide +kernel) (vx_Tk hT12 (by decide +kernel)) ?_
        obtain ⟨k13, H⟩ := H
        refine vx_iaload (z := 602) (q := 93) (by decide +kernel) (vx_Tk hT12 (by decide +kernel)) (vx_Tz hT12 (by decide +kernel)) (vx_ix k13 (by decide)) ?_
        obtain ⟨k14, H⟩ := H
        refine vx_iastore (z := 9) (q := 94) (by decide +kernel) (vx_Tk hT12 (by decide +kernel)) (vx_Tz hT12 (by decide +kernel)) (vx_ix k14 (by decide)) (fun h15 e15 => ?_)
        have hT15 := vx_TJ hT12 e15
        replace H := H h15 e15 hT15
        refine vx_aload_n (n := 0) (q := 95) (by decide +kernel) rfl ?_
        refine vx_getR (b := 642) (idx := 59) (kd := 9) (s := 23) (fin := true) (q := 98) (by decide +kernel) (vx_Tk hT15 (by decide +kernel)) (vx_Tr hT15 (kd := 9) (by decide +kernel) (by decide +kernel) (by decide +kernel)) ?_
        refine vx_aload_n (n := 0) (q := 99) (by decide +kernel) rfl ?_
        refine vx_getI (idx := 223) (kd := 9) (s := 42) (fin := false) (q := 102) (by decide +kernel) (vx_Tk hT15 (by decide +kernel)) ?_
        refine vx_dup2I (q := 103) (by decide +kernel) ?_
        obtain ⟨k16, H⟩ := H
        refine vx_iaload (z := 61) (q := 104) (by decide +kernel) (vx_Tk hT15 (by decide +kernel)) (vx_Tz hT15 (by decide +kernel)) (vx_ix k16 (by decide)) ?_
        refine vx_iconst (n := 1) (q := 105) (by decide +kernel) ?_
        refine vx_iadd (q := 106) (by decide +kernel) ?_
        obtain ⟨k17, H⟩ := H
        refine vx_iastore (z := 61) (q := 107) (by decide +kernel) (vx_Tk hT15 (by decide +kernel)) (vx_Tz hT15 (by decide +kernel)) (vx_ix k17 (by decide)) (fun h18 e18 => ?_)
        have hT18 := vx_TJ hT15 e18
        replace H := H h18 e18 hT18
        refine vx_aload_n (n := 0) (q := 108) (by decide +kernel) rfl ?_
        refine vx_iconst (n := 1) (q := 109) (by decide +kernel) ?_
        refine vx_putI (idx := 226) (kd := 9) (s := 46) (fin := false) (q := 112) (by decide +kernel) (vx_Tk hT18 (by decide +kernel)) (fun h19 e19 => ?_)
        have hT19 := vx_TJ hT18 e19
        replace H := H h19 e19 hT19
        refine vx_aload_n (n := 0) (q := 113) (by decide +kernel) rfl ?_
        refine vx_iload_n (n := 1) (q := 114) (by decide +kernel) rfl ?_
        refine vx_i2l (q := 115) (by decide +kernel) k2 ?_
        refine vx_putL (idx := 229) (kd := 9) (s := 47) (fin := false) (q := 118) (by decide +kernel) (vx_Tk hT19 (by decide +kernel)) (fun h20 e20 => ?_)
        have hT20 := vx_TK hT19 e20
        replace H := H h20 e20 hT20
        refine vx_aload_n (n := 0) (q := 119) (by decide +kernel) rfl ?_
        refine vx_dupR (q := 120) (by decide +kernel) ?_
        refine vx_getI (idx := 207) (kd := 9) (s := 10) (fin := false) (q := 123) (by decide +kernel) (vx_Tk hT20 (by decide +kernel)) ?_
        refine vx_iconst (n := 1) (q := 124) (by decide +kernel) ?_
        refine vx_iadd (q := 125) (by decide +kernel) ?_
        refine vx_putI (idx := 207) (kd := 9) (s := 10) (fin := false) (q := 128) (by decide +kernel) (vx_Tk hT20 (by decide +kernel)) (fun h21 e21 => ?_)
        have hT21 := vx_TJ hT20 e21
        replace H := H h21 e21 hT21
        refine vx_iconst (n := 1) (q := 129) (by decide +kernel) ?_
        refine vx_retZ (q := 130) (by decide +kernel) (Or.inr rfl) ?_
        exact H
      · replace H := H.2 c9
        refine vx_aload_n (n := 0) (q := 60) (by decide +kernel) rfl ?_
        refine vx_callI (i := .invokevirtual 219) (how := 3) (cm := 33) (np := 1) (q := 63) (args := [.ref 625]) (rest := []) (by decide +kernel) rfl rfl rfl (vx_w2 (w := 1) (ml := 1) rfl (by decide +kernel)) (vx_rcv (kd := 9) (vx_Tk hT (by decide +kernel)) (by decide +kernel)) H (fun r22 h22 hr22 hs22 H => ?_)
        have hT22 := vx_Tsh hT hs22
        replace H := H hT22
        obtain ⟨k23, H⟩ := H
        refine vx_retZ (q := 64) (by decide +kernel) k23 ?_
        exact H
  · replace H := H.2 c3
    refine vx_aload_n (n := 0) (q := 16) (by decide +kernel) rfl ?_
    refine vx_getR (b := 655) (idx := 102) (kd := 9) (s := 43) (fin := true) (q := 19) (by decide +kernel) (vx_Tk hT (by decide +kernel)) (vx_Tr hT (kd := 9) (by decide +kernel) (by decide +kernel) (by decide +kernel)) ?_
    refine vx_iload_n (n := 1) (q := 20) (by decide +kernel) rfl ?_
    obtain ⟨k24, H⟩ := H
    refine vx_laload (z := 9) (q := 21) (by decide +kernel) (vx_Tk hT (by decide +kernel)) (vx_Tz hT (by decide +kernel)) (vx_ix k24 (by decide)) ?_
    refine vx_aload_n (n := 0) (q := 22) (by decide +kernel) rfl ?_
    refine vx_getR (b := 630) (idx := 22) (kd := 9) (s := 9) (fin := true) (q := 25) (by decide +kernel) (vx_Tk hT (by decide +kernel)) (vx_Tr hT (kd := 9) (by decide +kernel) (by decide +kernel) (by decide +kernel)) ?_
    refine vx_aload_n (n := 0) (q := 26) (by decide +kernel) rfl ?_
    refine vx_getI (idx := 207) (kd := 9) (s := 10) (fin := false) (q := 29) (by decide +kernel) (vx_Tk hT (by decide +kernel)) ?_
    obtain ⟨k25, H⟩ := H
    refine vx_laload (z := 602) (q := 30) (by decide +kernel) (vx_Tk hT (by decide +kernel)) (vx_Tz hT (by decide +kernel)) (vx_ix k25 (by decide)) ?_
    refine vx_lc_eq (off := 9) (p := 31) (q := 34) (t := 40) (by decide +kernel) (vx_rL_K h 655 v1.toNat) (vx_rL_K h 630 (vx_J h 625 10).toNat) (fun c26 => ?_) (fun c26 => ?_)
    · replace H := H.1 c26
      refine vx_iload_n (n := 1) (q := 41) (by decide +kernel) rfl ?_
      refine vx_aload_n (n := 0) (q := 42) (by decide +kernel) rfl ?_
      refine vx_getR (b := 642) (idx := 59) (kd := 9) (s := 23) (fin := true) (q := 45) (by decide +kernel) (vx_Tk hT (by decide +kernel)) (vx_Tr hT (kd := 9) (by decide +kernel) (by decide +kernel) (by decide +kernel)) ?_
      refine vx_aload_n (n := 0) (q := 46) (by decide +kernel) rfl ?_
      refine vx_getI (idx := 223) (kd := 9) (s := 42) (fin := false) (q := 49) (by decide +kernel) (vx_Tk hT (by decide +kernel)) ?_
      obtain ⟨k27, H⟩ := H
      refine vx_iaload (z := 61) (q := 50) (by decide +kernel) (vx_Tk hT (by decide +kernel)) (vx_Tz hT (by decide +kernel)) (vx_ix k27 (by decide)) ?_
      refine vx_icmp_ne (off := 57) (q := 53) (t := 107) (by decide +kernel) k2 (vx_rI_J h 642 (vx_J h 625 42).toNat) (fun _ => ?_) (fun c => absurd c (by omega))
      refine vx_aload_n (n := 0) (q := 108) (by decide +kernel) rfl ?_
      refine vx_iconst (n := 1) (q := 109) (by decide +kernel) ?_
      refine vx_putI (idx := 226) (kd := 9) (s := 46) (fin := false) (q := 112) (by decide +kernel) (vx_Tk hT (by decide +kernel)) (fun h28 e28 => ?_)
      have hT28 := vx_TJ hT e28
      replace H := H h28 e28 hT28
      refine vx_aload_n (n := 0) (q := 113) (by decide +kernel) rfl ?_
      refine vx_iload_n (n := 1) (q := 114) (by decide +kernel) rfl ?_
      refine vx_i2l (q := 115) (by decide +kernel) k2 ?_
      refine vx_putL (idx := 229) (kd := 9) (s := 47) (fin := false) (q := 118) (by decide +kernel) (vx_Tk hT28 (by decide +kernel)) (fun h29 e29 => ?_)
      have hT29 := vx_TK hT28 e29
      replace H := H h29 e29 hT29
      refine vx_aload_n (n := 0) (q := 119) (by decide +kernel) rfl ?_
      refine vx_dupR (q := 120) (by decide +kernel) ?_
      refine vx_getI (idx := 207) (kd := 9) (s := 10) (fin := false) (q := 123) (by decide +kernel) (vx_Tk hT29 (by decide +kernel)) ?_
      refine vx_iconst (n := 1) (q := 124) (by decide +kernel) ?_
      refine vx_iadd (q := 125) (by decide +kernel) ?_
      refine vx_putI (idx := 207) (kd := 9) (s := 10) (fin := false) (q := 128) (by decide +kernel) (vx_Tk hT29 (by decide +kernel)) (fun h30 e30 => ?_)
      have hT30 := vx_TJ hT29 e30
      replace H := H h30 e30 hT30
      refine vx_iconst (n := 1) (q := 129) (by decide +kernel) ?_
      refine vx_retZ (q := 130) (by decide +kernel) (Or.inr rfl) ?_
      exact H
    · replace H := H.2 c26
      refine vx_iinc (n := 1) (m := 1) (x := v1) (q := 37) (lv' := [some (.ref 625), some (.int (vx_i (v1 + 1)))]) (by decide +kernel) rfl rfl ?_
      refine vx_goto (off := (-35)) (q := 40) (t := 2) (by decide +kernel) ?_
      exact H
-- RuleHouseModel.readTerm()Z
theorem vg_39 {d : Nat} {h : ve_H} {P : Int → ve_H → Prop}  (hT : vx_T 625 672 h) (H : (0 ≤ (vx_J h 625 10) ∧ (vx_J h 625 10) < 602) ∧ (((vx_J h 627 (vx_J h 625 10).toNat) ≠ 2 → (∀ h3, h3 = vx_sJ h 625 46 0 → vx_T 625 672 h3 → (0 ≤ (vx_J h3 625 10) ∧ (vx_J h3 625 10) < 602) ∧ (((vx_J h3 627 (vx_J h3 625 10).toNat) ≠ 1 → vx_CI d 35 [.ref 625, .int (vx_i 45)] h3 (fun r6 h6 => vx_T 625 672 h6 → (0 ≤ (vx_J h6 625 10) ∧ (vx_J h6 625 10) < 602) ∧ (((vx_J h6 627 (vx_J h6 625 10).toNat) = 3 → ((r6 = 0 → (0 ≤ (vx_J h6 625 10) ∧ (vx_J h6 625 10) < 602) ∧ (∀ h11, h11 = vx_sK h6 625 47 (vx_K h6 630 (vx_J h6 625 10).toNat) → vx_T 625 672 h11 → (∀ h12, h12 = vx_sJ h11 625 10 ((vx_J h11 625 10) + 1) → vx_T 625 672 h12 → P 1 h12))) ∧ (r6 ≠ 0 → (0 ≤ (vx_J h6 625 10) ∧ (vx_J h6 625 10) < 602) ∧ (∀ h14, h14 = vx_sK h6 625 47 (-(vx_K h6 630 (vx_J h6 625 10).toNat)) → vx_T 625 672 h14 → (∀ h15, h15 = vx_sJ h14 625 10 ((vx_J h14 625 10) + 1) → vx_T 625 672 h15 → P 1 h15))))) ∧ ((vx_J h6 627 (vx_J h6 625 10).toNat) ≠ 3 → vx_CI d 33 [.ref 625] h6 (fun r16 h16 => vx_T 625 672 h16 → (r16 = 0 ∨ r16 = 1) ∧ P r16 h16))))) ∧ ((vx_J h3 627 (vx_J h3 625 10).toNat) = 1 → (0 ≤ (vx_J h3 625 10) ∧ (vx_J h3 625 10) < 602) ∧ (∀ h19, h19 = vx_sK h3 625 47 (vx_lor (vx_K h3 630 (vx_J h3 625 10).toNat) 72057594037927936) → vx_T 625 672 h19 → (∀ h20, h20 = vx_sJ h19 625 10 ((vx_J h19 625 10) + 1) → vx_T 625 672 h20 → P 1 h20)))))) ∧ ((vx_J h 627 (vx_J h 625 10).toNat) = 2 → vx_CI d 38 [.ref 625] h (fun r21 h21 => vx_T 625 672 h21 → (r21 = 0 ∨ r21 = 1) ∧ P r21 h21)))) : vx_CI (d + 1) 39 [.ref 625] h P := by
  refine vx_enter (ml := 2) (by decide +kernel) ?_
  show vx_W _ _ 0 [some (.ref 625), none] [] h _
  refine vx_aload_n (n := 0) (q := 1) (by decide +kernel) rfl ?_
  refine vx_getR (b := 627) (idx := 13) (kd := 9) (s := 6) (fin := true) (q := 4) (by decide +kernel) (vx_Tk hT (by decide +kernel)) (vx_Tr hT (kd := 9) (by decide +kernel) (by decide +kernel) (by decide +kernel)) ?_
  refine vx_aload_n (n := 0) (q := 5) (by decide +kernel) rfl ?_
  refine vx_getI (idx := 207) (kd := 9) (s := 10) (fin := false) (q := 8) (by decide +kernel) (vx_Tk hT (by decide +kernel)) ?_
  obtain ⟨k1, H⟩ := H
  refine vx_iaload (z := 602) (q := 9) (by decide +kernel) (vx_Tk hT (by decide +kernel)) (vx_Tz hT (by decide +kernel)) (vx_ix k1 (by decide)) ?_
  refine vx_iconst (n := 2) (q := 10) (by decide +kernel) ?_
  refine vx_icmp_ne (off := 8) (q := 13) (t := 18) (by decide +kernel) (vx_rI_J h 627 (vx_J h 625 10).toNat) (by decide) (fun c2 => ?_) (fun c2 => ?_)
  · replace H := H.1 c2
    refine vx_aload_n (n := 0) (q := 19) (by decide +kernel) rfl ?_
    refine vx_iconst (n := 0) (q := 20) (by decide +kernel) ?_
    refine vx_putI (idx := 226) (kd := 9) (s := 46) (fin := false) (q := 23) (by decide +kernel) (vx_Tk hT (by decide +kernel)) (fun h3 e3 => ?_)
    have hT3 := vx_TJ hT e3
    replace H := H h3 e3 hT3
    refine vx_aload_n (n := 0) (q := 24) (by decide +kernel) rfl ?_
    refine vx_getR (b := 627) (idx := 13) (kd := 9) (s := 6) (fin := true) (q := 27) (by decide +kernel) (vx_Tk hT3 (by decide +kernel)) (vx_Tr hT3 (kd := 9) (by decide +kernel) (by decide +kernel) (by decide +kernel)) ?_
    refine vx_aload_n (n := 0) (q := 28) (by decide +kernel) rfl ?_
    refine vx_getI (idx := 207) (kd := 9) (s := 10) (fin := false) (q := 31) (by decide +kernel) (vx_Tk hT3 (by decide +kernel)) ?_
    obtain ⟨k4, H⟩ := H
    refine vx_iaload (z := 602) (q := 32) (by decide +kernel) (vx_Tk hT3 (by decide +kernel)) (vx_Tz hT3 (by decide +kernel)) (vx_ix k4 (by decide)) ?_
    refine vx_iconst (n := 1) (q := 33) (by decide +kernel) ?_
    refine vx_icmp_ne (off := 32) (q := 36) (t := 65) (by decide +kernel) (vx_rI_J h3 627 (vx_J h3 625 10).toNat) (by decide) (fun c5 => ?_) (fun c5 => ?_)
    · replace H := H.1 c5
      refine vx_aload_n (n := 0) (q := 66) (by decide +kernel) rfl ?_
      refine vx_bipush (n := 45) (q := 68) (by decide +kernel) ?_
      refine vx_callI (i := .invokevirtual 216) (how := 3) (cm := 35) (np := 2) (q := 71) (args := [.ref 625, .int (vx_i 45)]) (rest := []) (by decide +kernel) rfl rfl rfl (vx_w2 (w := 2) (ml := 2) rfl (by decide +kernel)) (vx_rcv (kd := 9) (vx_Tk hT3 (by decide +kernel)) (by decide +kernel)) H (fun r6 h6 hr6 hs6 H => ?_)
      have hT6 := vx_Tsh hT3 hs6
      replace H := H hT6
      refine vx_istore_n (n := 1) (q := 72) (lv' := [some (.ref 625), some (.int (vx_i r6))]) (by decide +kernel) rfl ?_
      refine vx_aload_n (n := 0) (q := 73) (by decide +kernel) rfl ?_
      refine vx_getR (b := 627) (idx := 13) (kd := 9) (s := 6) (fin := true) (q := 76) (by decide +kernel) (vx_Tk hT6 (by decide +kernel)) (vx_Tr hT6 (kd := 9) (by decide +kernel) (by decide +kernel) (by decide +kernel)) ?_
      refine vx_aload_n (n := 0) (q := 77) (by decide +kernel) rfl ?_
      refine vx_getI (idx := 207) (kd := 9) (s := 10) (fin := false) (q := 80) (by decide +kernel) (vx_Tk hT6 (by decide +kernel)) ?_
      obtain ⟨k7, H⟩ := H
      refine vx_iaload (z := 602) (q := 81) (by decide +kernel) (vx_Tk hT6 (by decide +kernel)) (vx_Tz hT6 (by decide +kernel)) (vx_ix k7 (by decide)) ?_
      refine vx_iconst (n := 3) (q := 82) (by decide +kernel) ?_
      refine vx_icmp_eq (off := 8) (q := 85) (t := 90) (by decide +kernel) (vx_rI_J h6 627 (vx_J h6 625 10).toNat) (by decide) (fun c8 => ?_) (fun c8 => ?_)
      · replace H := H.1 c8
        refine vx_aload_n (n := 0) (q := 91) (by decide +kernel) rfl ?_
        refine vx_iload_n (n := 1) (q := 92) (by decide +kernel) rfl ?_
        refine vx_if0_eq (off := 16) (q := 95) (t := 108) (by decide +kernel) hr6 (fun c9 => ?_) (fun c9 => ?_)
        · replace H := H.1 c9
          refine vx_aload_n (n := 0) (q := 109) (by decide +kernel) rfl ?_
          refine vx_getR (b := 630) (idx := 22) (kd := 9) (s := 9) (fin := true) (q := 112) (by decide +kernel) (vx_Tk hT6 (by decide +kernel)) (vx_Tr hT6 (kd := 9) (by decide +kernel) (by decide +kernel) (by decide +kernel)) ?_
          refine vx_aload_n (n := 0) (q := 113) (by decide +kernel) rfl ?_
          refine vx_getI (idx := 207) (kd := 9) (s := 10) (fin := false) (q := 116) (by decide +kernel) (vx_Tk hT6 (by decide +kernel)) ?_
          obtain ⟨k10, H⟩ := H
          refine vx_laload (z := 602) (q := 117) (by decide +kernel) (vx_Tk hT6 (by decide +kernel)) (vx_Tz hT6 (by decide +kernel)) (vx_ix k10 (by decide)) ?_
          refine vx_putL (idx := 229) (kd := 9) (s := 47) (fin := false) (q := 120) (by decide +kernel) (vx_Tk hT6 (by decide +kernel)) (fun h11 e11 => ?_)
          have hT11 := vx_TK hT6 e11
          replace H := H h11 e11 hT11
          refine vx_aload_n (n := 0) (q := 121) (by decide +kernel) rfl ?_
          refine vx_dupR (q := 122) (by decide +kernel) ?_
          refine vx_getI (idx := 207) (kd := 9) (s := 10) (fin := false) (q := 125) (by decide +kernel) (vx_Tk hT11 (by decide +kernel)) ?_
          refine vx_iconst (n := 1) (q := 126) (by decide +kernel) ?_
          refine vx_iadd (q := 127) (by decide +kernel) ?_
          refine vx_putI (idx := 207) (kd := 9) (s := 10) (fin := false) (q := 130) (by decide +kernel) (vx_Tk hT11 (by decide +kernel)) (fun h12 e12 => ?_)
          have hT12 := vx_TJ hT11 e12
          replace H := H h12 e12 hT12
          refine vx_iconst (n := 1) (q := 131) (by decide +kernel) ?_
          refine vx_retZ (q := 132) (by decide +kernel) (Or.inr rfl) ?_
          exact H
        · replace H := H.2 c9
          refine vx_aload_n (n := 0) (q := 96) (by decide +kernel) rfl ?_
          refine vx_getR (b := 630) (idx := 22) (kd := 9) (s := 9) (fin := true) (q := 99) (by decide +kernel) (vx_Tk hT6 (by decide +kernel)) (vx_Tr hT6 (kd := 9) (by decide +kernel) (by decide +kernel) (by decide +kernel)) ?_
          refine vx_aload_n (n := 0) (q := 100) (by decide +kernel) rfl ?_
          refine vx_getI (idx := 207) (kd := 9) (s := 10) (fin := false) (q := 103) (by decide +kernel) (vx_Tk hT6 (by decide +kernel)) ?_
          obtain ⟨k13, H⟩ := H
          refine vx_laload (z := 602) (q := 104) (by decide +kernel) (vx_Tk hT6 (by decide +kernel)) (vx_Tz hT6 (by decide +kernel)) (vx_ix k13 (by decide)) ?_
          refine vx_lneg (q := 105) (by decide +kernel) ?_
          refine vx_goto (off := 12) (q := 108) (t := 117) (by decide +kernel) ?_
          refine vx_putL (idx := 229) (kd := 9) (s := 47) (fin := false) (q := 120) (by decide +kernel) (vx_Tk hT6 (by decide +kernel)) (fun h14 e14 => ?_)
          have hT14 := vx_TK hT6 e14
          replace H := H h14 e14 hT14
          refine vx_aload_n (n := 0) (q := 121) (by decide +kernel) rfl ?_
          refine vx_dupR (q := 122) (by decide +kernel) ?_
          refine vx_getI (idx := 207) (kd := 9) (s := 10) (fin := false) (q := 125) (by decide +kernel) (vx_Tk hT14 (by decide +kernel)) ?_
          refine vx_iconst (n := 1) (q := 126) (by decide +kernel) ?_
          refine vx_iadd (q := 127) (by decide +kernel) ?_
          refine vx_putI (idx := 207) (kd := 9) (s := 10) (fin := false) (q := 130) (by decide +kernel) (vx_Tk hT14 (by decide +kernel)) (fun h15 e15 => ?_)
          have hT15 := vx_TJ hT14 e15
          replace H := H h15 e15 hT15
          refine vx_iconst (n := 1) (q := 131) (by decide +kernel) ?_
          refine vx_retZ (q := 132) (by decide +kernel) (Or.inr rfl) ?_
          exact H
      · replace H := H.2 c8
        refine vx_aload_n (n := 0) (q := 86) (by decide +kernel) rfl ?_
        refine vx_callI (i := .invokevirtual 219) (how := 3) (cm := 33) (np := 1) (q := 89) (args := [.ref 625]) (rest := []) (by decide +kernel) rfl rfl rfl (vx_w2 (w := 1) (ml := 1) rfl (by decide +kernel)) (vx_rcv (kd := 9) (vx_Tk hT6 (by decide +kernel)) (by decide +kernel)) H (fun r16 h16 hr16 hs16 H => ?_)
        have hT16 := vx_Tsh hT6 hs16
        replace H := H hT16
        obtain ⟨k17, H⟩ := H
        refine vx_retZ (q := 90) (by decide +kernel) k17 ?_
        exact H
    · replace H := H.2 c5
      refine vx_aload_n (n := 0) (q := 37) (by decide +kernel) rfl ?_
      refine vx_aload_n (n := 0) (q := 38) (by decide +kernel) rfl ?_
      refine vx_getR (b := 630) (idx := 22) (kd := 9) (s := 9) (fin := true) (q := 41) (by decide +kernel) (vx_Tk hT3 (by decide +kernel)) (vx_Tr hT3 (kd := 9) (by decide +kernel) (by decide +kernel) (by decide +kernel)) ?_
      refine vx_aload_n (n := 0) (q := 42) (by decide +kernel) rfl ?_
      refine vx_getI (idx := 207) (kd := 9) (s := 10) (fin := false) (q := 45) (by decide +kernel) (vx_Tk hT3 (by decide +kernel)) ?_
      obtain ⟨k18, H⟩ := H
      refine vx_laload (z := 602) (q := 46) (by decide +kernel) (vx_Tk hT3 (by decide +kernel)) (vx_Tz hT3 (by decide +kernel)) (vx_ix k18 (by decide)) ?_
      refine vx_ldc (idx := 236) (v := 72057594037927936) (m := 72057594037927936) (q := 49) (by decide +kernel) ?_
      refine vx_lor1 (q := 50) (by decide +kernel) ?_
      refine vx_putL (idx := 229) (kd := 9) (s := 47) (fin := false) (q := 53) (by decide +kernel) (vx_Tk hT3 (by decide +kernel)) (fun h19 e19 => ?_)
      have hT19 := vx_TK hT3 e19
      replace H := H h19 e19 hT19
      refine vx_aload_n (n := 0) (q := 54) (by decide +kernel) rfl ?_
      refine vx_dupR (q := 55) (by decide +kernel) ?_
      refine vx_getI (idx := 207) (kd := 9) (s := 10) (fin := false) (q := 58) (by decide +kernel) (vx_Tk hT19 (by decide +kernel)) ?_
      refine vx_iconst (n := 1) (q := 59) (by decide +kernel) ?_
      refine vx_iadd (q := 60) (by decide +kernel) ?_
      refine vx_putI (idx := 207) (kd := 9) (s := 10) (fin := false) (q := 63) (by decide +kernel) (vx_Tk hT19 (by decide +kernel)) (fun h20 e20 => ?_)
      have hT20 := vx_TJ hT19 e20
      replace H := H h20 e20 hT20
      refine vx_iconst (n := 1) (q := 64) (by decide +kernel) ?_
      refine vx_retZ (q := 65) (by decide +kernel) (Or.inr rfl) ?_
      exact H
  · replace H := H.2 c2
    refine vx_aload_n (n := 0) (q := 14) (by decide +kernel) rfl ?_
    refine vx_callI (i := .invokevirtual 233) (how := 3) (cm := 38) (np := 1) (q := 17) (args := [.ref 625]) (rest := []) (by decide +kernel) rfl rfl rfl (vx_w2 (w := 1) (ml := 2) rfl (by decide +kernel)) (vx_rcv (kd := 9) (vx_Tk hT (by decide +kernel)) (by decide +kernel)) H (fun r21 h21 hr21 hs21 H => ?_)
    have hT21 := vx_Tsh hT hs21
    replace H := H hT21
    obtain ⟨k22, H⟩ := H
    refine vx_retZ (q := 18) (by decide +kernel) k22 ?_
    exact H
-- RuleHouseModel.predicateOf(JIIZ)I
theorem vg_40 {d : Nat} {h : ve_H} {P : Int → ve_H → Prop} {x1 : Int} {x2 : Int} {x3 : Int} {x4 : Int} (hT : vx_T 625 672 h) (H : vx_W (d + 1) 40 13 [some (.ref 625), some (.long (vx_l x1)), none, some (.int (vx_i x2)), some (.int (vx_i x3)), some (.int (vx_i x4)), some (.int (vx_i (16 * (vx_J h 625 48)))), some (.int (vx_i (16 * (vx_J h 625 48))))] [] h (vx_RI P)) : vx_CI (d + 1) 40 [.ref 625, .long (vx_l x1), .int (vx_i x2), .int (vx_i x3), .int (vx_i x4)] h P := by
  refine vx_enter (ml := 8) (by decide +kernel) ?_
  show vx_W _ _ 0 [some (.ref 625), some (.long (vx_l x1)), none, some (.int (vx_i x2)), some (.int (vx_i x3)), some (.int (vx_i x4)), none, none] [] h _
  refine vx_bipush (n := 16) (q := 2) (by decide +kernel) ?_
  refine vx_aload_n (n := 0) (q := 3) (by decide +kernel) rfl ?_
  refine vx_getI (idx := 238) (kd := 9) (s := 48) (fin := false) (q := 6) (by decide +kernel) (vx_Tk hT (by decide +kernel)) ?_
  refine vx_imul (q := 7) (by decide +kernel) ?_
  refine vx_istore (n := 6) (q := 9) (lv' := [some (.ref 625), some (.long (vx_l x1)), none, some (.int (vx_i x2)), some (.int (vx_i x3)), some (.int (vx_i x4)), some (.int (vx_i (16 * (vx_J h 625 48)))), none]) (by decide +kernel) rfl ?_
  refine vx_iload (n := 6) (q := 11) (by decide +kernel) rfl ?_
  refine vx_istore (n := 7) (q := 13) (lv' := [some (.ref 625), some (.long (vx_l x1)), none, some (.int (vx_i x2)), some (.int (vx_i x3)), some (.int (vx_i x4)), some (.int (vx_i (16 * (vx_J h 625 48)))), some (.int (vx_i (16 * (vx_J h 625 48))))]) (by decide +kernel) rfl ?_
  exact H
theorem vg_40_13 {d : Nat} {h : ve_H} {P : Int → ve_H → Prop} {v1 : Int} {v3 : Int} {v4 : Int} {v5 : Int} {v6 : Int} {v7 : Int} (hT : vx_T 625 672 h) (H : (0 ≤ (vx_J h 625 48) ∧ (vx_J h 625 48) < 2) ∧ (vx_rI v7) ∧ (vx_rI (v6 + (vx_J h 631 (vx_J h 625 48).toNat))) ∧ (((v6 + (vx_J h 631 (vx_J h 625 48).toNat)) ≤ v7 → (vx_rI v5) ∧ ((v5 ≠ 0 → (0 ≤ (vx_J h 625 48) ∧ (vx_J h 625 48) < 2) ∧ (0 ≤ (v6 + (vx_J h 631 (vx_J h 625 48).toNat)) ∧ (v6 + (vx_J h 631 (vx_J h 625 48).toNat)) < 32) ∧ (∀ h9, h9 = vx_sK h 632 (v6 + (vx_J h 631 (vx_J h 625 48).toNat)).toNat v1 → vx_T 625 672 h9 → (0 ≤ (v6 + (vx_J h 631 (vx_J h 625 48).toNat)) ∧ (v6 + (vx_J h 631 (vx_J h 625 48).toNat)) < 32) ∧ (∀ h11, h11 = vx_sJ h9 633 (v6 + (vx_J h 631 (vx_J h 625 48).toNat)).toNat v3 → vx_T 625 672 h11 → (0 ≤ (vx_J h11 625 48) ∧ (vx_J h11 625 48) < 2) ∧ (0 ≤ (vx_J h11 625 48) ∧ (vx_J h11 625 48) < 2) ∧ (∀ h14, h14 = vx_sJ h11 631 (vx_J h11 625 48).toNat ((vx_J h11 631 (vx_J h11 625 48).toNat) + 1) → vx_T 625 672 h14 → (vx_rI ((v6 + (vx_J h 631 (vx_J h 625 48).toNat)) - v6)) ∧ P ((v6 + (vx_J h 631 (vx_J h 625 48).toNat)) - v6) h14)))) ∧ (v5 = 0 → vx_CV d 37 [.ref 625, .int (vx_i 2), .int (vx_i v4)] h (fun h16 => vx_T 625 672 h16 → P 0 h16)))) ∧ (v7 < (v6 + (vx_J h 631 (vx_J h 625 48).toNat)) → (0 ≤ v7 ∧ v7 < 32) ∧ (vx_rL v1) ∧ (((vx_K h 632 v7.toNat) = v1 → (0 ≤ v7 ∧ v7 < 32) ∧ (vx_rI v3) ∧ (((vx_J h 633 v7.toNat) = v3 → (vx_rI (v7 - v6)) ∧ P (v7 - v6) h) ∧ ((vx_J h 633 v7.toNat) ≠ v3 → vx_CV d 37 [.ref 625, .int (vx_i 2), .int (vx_i v4)] h (fun h24 => vx_T 625 672 h24 → (vx_rI (v7 - v6)) ∧ P (v7 - v6) h24)))) ∧ ((vx_K h 632 v7.toNat) ≠ v1 → vx_W (d + 1) 40 13 [some (.ref 625), some (.long (vx_l v1)), none, some (.int (vx_i v3)), some (.int (vx_i v4)), some (.int (vx_i v5)), some (.int (vx_i v6)), some (.int (vx_i (v7 + 1)))] [] h (vx_RI P)))))) : vx_W (d + 1) 40 13 [some (.ref 625), some (.long (vx_l v1)), none, some (.int (vx_i v3)), some (.int (vx_i v4)), some (.int (vx_i v5)), some (.int (vx_i v6)), some (.int (vx_i v7))] [] h (vx_RI P) := by
  refine vx_iload (n := 7) (q := 15) (by decide +kernel) rfl ?_
  refine vx_iload (n := 6) (q := 17) (by decide +kernel) rfl ?_
  refine vx_aload_n (n := 0) (q := 18) (by decide +kernel) rfl ?_
  refine vx_getR (b := 631) (idx := 26) (kd := 9) (s := 12) (fin := true) (q := 21) (by decide +kernel) (vx_Tk hT (by decide +kernel)) (vx_Tr hT (kd := 9) (by decide +kernel) (by decide +kernel) (by decide +kernel)) ?_
  refine vx_aload_n (n := 0) (q := 22) (by decide +kernel) rfl ?_
  refine vx_getI (idx := 238) (kd := 9) (s := 48) (fin := false) (q := 25) (by decide +kernel) (vx_Tk hT (by decide +kernel)) ?_
  obtain ⟨k1, H⟩ := H
  refine vx_iaload (z := 2) (q := 26) (by decide +kernel) (vx_Tk hT (by decide +kernel)) (vx_Tz hT (by decide +kernel)) (vx_ix k1 (by decide)) ?_
  refine vx_iadd (q := 27) (by decide +kernel) ?_
  obtain ⟨k2, H⟩ := H
  obtain ⟨k3, H⟩ := H
  refine vx_icmp_ge (off := 48) (q := 30) (t := 75) (by decide +kernel) k2 k3 (fun c4 => ?_) (fun c4 => ?_)
  · replace H := H.1 c4
    refine vx_iload (n := 5) (q := 77) (by decide +kernel) rfl ?_
    obtain ⟨k5, H⟩ := H
    refine vx_if0_ne (off := 12) (q := 80) (t := 89) (by decide +kernel) k5 (fun c6 => ?_) (fun c6 => ?_)
    · replace H := H.1 c6
      refine vx_iload (n := 6) (q := 91) (by decide +kernel) rfl ?_
      refine vx_aload_n (n := 0) (q := 92) (by decide +kernel) rfl ?_
      refine vx_getR (b := 631) (idx := 26) (kd := 9) (s := 12) (fin := true) (q := 95) (by decide +kernel) (vx_Tk hT (by decide +kernel)) (vx_Tr hT (kd := 9) (by decide +kernel) (by decide +kernel) (by decide +kernel)) ?_
      refine vx_aload_n (n := 0) (q := 96) (by decide +kernel) rfl ?_
      refine vx_getI (idx := 238) (kd := 9) (s := 48) (fin := false) (q := 99) (by decide +kernel) (vx_Tk hT (by decide +kernel)) ?_
      obtain ⟨k7, H⟩ := H
      refine vx_iaload (z := 2) (q := 100) (by decide +kernel) (vx_Tk hT (by decide +kernel)) (vx_Tz hT (by decide +kernel)) (vx_ix k7 (by decide)) ?_
      refine vx_iadd (q := 101) (by decide +kernel) ?_
      refine vx_istore (n := 7) (q := 103) (lv' := [some (.ref 625), some (.long (vx_l v1)), none, some (.int (vx_i v3)), some (.int (vx_i v4)), some (.int (vx_i v5)), some (.int (vx_i v6)), some (.int (vx_i (v6 + (vx_J h 631 (vx_J h 625 48).toNat))))]) (by decide +kernel) rfl ?_
      refine vx_aload_n (n := 0) (q := 104) (by decide +kernel) rfl ?_
      refine vx_getR (b := 632) (idx := 29) (kd := 9) (s := 13) (fin := true) (q := 107) (by decide +kernel) (vx_Tk hT (by decide +kernel)) (vx_Tr hT (kd := 9) (by decide +kernel) (by decide +kernel) (by decide +kernel)) ?_
      refine vx_iload (n := 7) (q := 109) (by decide +kernel) rfl ?_
      refine vx_lload_n (n := 1) (q := 110) (by decide +kernel) rfl ?_
      obtain ⟨k8, H⟩ := H
      refine vx_lastore (z := 32) (q := 111) (by decide +kernel) (vx_Tk hT (by decide +kernel)) (vx_Tz hT (by decide +kernel)) (vx_ix k8 (by decide)) (fun h9 e9 => ?_)
      have hT9 := vx_TK hT e9
      replace H := H h9 e9 hT9
      refine vx_aload_n (n := 0) (q := 112) (by decide +kernel) rfl ?_
      refine vx_getR (b := 633) (idx := 32) (kd := 9) (s := 14) (fin := true) (q := 115) (by decide +kernel) (vx_Tk hT9 (by decide +kernel)) (vx_Tr hT9 (kd := 9) (by decide +kernel) (by decide +kernel) (by decide +kernel)) ?_
      refine vx_iload (n := 7) (q := 117) (by decide +kernel) rfl ?_
      refine vx_iload_n (n := 3) (q := 118) (by decide +kernel) rfl ?_
      obtain ⟨k10, H⟩ := H
      refine vx_iastore (z := 32) (q := 119) (by decide +kernel) (vx_Tk hT9 (by decide +kernel)) (vx_Tz hT9 (by decide +kernel)) (vx_ix k10 (by decide)) (fun h11 e11 => ?_)
      have hT11 := vx_TJ hT9 e11
      replace H := H h11 e11 hT11
      refine vx_aload_n (n := 0) (q := 120) (by decide +kernel) rfl ?_
      refine vx_getR (b := 631) (idx := 26) (kd := 9) (s := 12) (fin := true) (q := 123) (by decide +kernel) (vx_Tk hT11 (by decide +kernel)) (vx_Tr hT11 (kd := 9) (by decide +kernel) (by decide +kernel) (by decide +kernel)) ?_
      refine vx_aload_n (n := 0) (q := 124) (by decide +kernel) rfl ?_
      refine vx_getI (idx := 238) (kd := 9) (s := 48) (fin := false) (q := 127) (by decide +kernel) (vx_Tk hT11 (by decide +kernel)) ?_
      refine vx_dup2I (q := 128) (by decide +kernel) ?_
      obtain ⟨k12, H⟩ := H
      refine vx_iaload (z := 2) (q := 129) (by decide +kernel) (vx_Tk hT11 (by decide +kernel)) (vx_Tz hT11 (by decide +kernel)) (vx_ix k12 (by decide)) ?_
      refine vx_iconst (n := 1) (q := 130) (by decide +kernel) ?_
      refine vx_iadd (q := 131) (by decide +kernel) ?_
      obtain ⟨k13, H⟩ := H
      refine vx_iastore (z := 2) (q := 132) (by decide +kernel) (vx_Tk hT11 (by decide +kernel)) (vx_Tz hT11 (by decide +kernel)) (vx_ix k13 (by decide)) (fun h14 e14 => ?_)
      have hT14 := vx_TJ hT11 e14
      replace H := H h14 e14 hT14
      refine vx_iload (n := 7) (q := 134) (by decide +kernel) rfl ?_
      refine vx_iload (n := 6) (q := 136) (by decide +kernel) rfl ?_
      refine vx_isub (q := 137) (by decide +kernel) ?_
      obtain ⟨k15, H⟩ := H
      refine vx_retI (q := 138) (by decide +kernel) k15 ?_
      exact H
    · replace H := H.2 c6
      refine vx_aload_n (n := 0) (q := 81) (by decide +kernel) rfl ?_
      refine vx_iconst (n := 2) (q := 82) (by decide +kernel) ?_
      refine vx_iload (n := 4) (q := 84) (by decide +kernel) rfl ?_
      refine vx_callV (i := .invokevirtual 241) (how := 3) (cm := 37) (np := 3) (q := 87) (args := [.ref 625, .int (vx_i 2), .int (vx_i v4)]) (rest := []) (by decide +kernel) rfl rfl rfl (vx_w2 (w := 3) (ml := 3) rfl (by decide +kernel)) (vx_rcv (kd := 9) (vx_Tk hT (by decide +kernel)) (by decide +kernel)) H (fun h16 hs16 H => ?_)
      have hT16 := vx_Tsh hT hs16
      replace H := H hT16
      refine vx_iconst (n := 0) (q := 88) (by decide +kernel) ?_
      refine vx_retI (q := 89) (by decide +kernel) (by decide) ?_
      exact H
  · replace H := H.2 c4
    refine vx_aload_n (n := 0) (q := 31) (by decide +kernel) rfl ?_
    refine vx_getR (b := 632) (idx := 29) (kd := 9) (s := 13) (fin := true) (q := 34) (by decide +kernel) (vx_Tk hT (by decide +kernel)) (vx_Tr hT (kd := 9) (by decide +kernel) (by decide +kernel) (by decide +kernel)) ?_
    refine vx_iload (n := 7) (q := 36) (by decide +kernel) rfl ?_
    obtain ⟨k17, H⟩ := H
    refine vx_laload (z := 32) (q := 37) (by decide +kernel) (vx_Tk hT (by decide +kernel)) (vx_Tz hT (by decide +kernel)) (vx_ix k17 (by decide)) ?_
    refine vx_lload_n (n := 1) (q := 38) (by decide +kernel) rfl ?_
    obtain ⟨k18, H⟩ := H
    refine vx_lc_eq (off := 6) (p := 39) (q := 42) (t := 45) (by decide +kernel) (vx_rL_K h 632 v7.toNat) k18 (fun c19 => ?_) (fun c19 => ?_)
    · replace H := H.1 c19
      refine vx_aload_n (n := 0) (q := 46) (by decide +kernel) rfl ?_
      refine vx_getR (b := 633) (idx := 32) (kd := 9) (s := 14) (fin := true) (q := 49) (by decide +kernel) (vx_Tk hT (by decide +kernel)) (vx_Tr hT (kd := 9) (by decide +kernel) (by decide +kernel) (by decide +kernel)) ?_
      refine vx_iload (n := 7) (q := 51) (by decide +kernel) rfl ?_
      obtain ⟨k20, H⟩ := H
      refine vx_iaload (z := 32) (q := 52) (by decide +kernel) (vx_Tk hT (by decide +kernel)) (vx_Tz hT (by decide +kernel)) (vx_ix k20 (by decide)) ?_
      refine vx_iload_n (n := 3) (q := 53) (by decide +kernel) rfl ?_
      obtain ⟨k21, H⟩ := H
      refine vx_icmp_eq (off := 10) (q := 56) (t := 63) (by decide +kernel) (vx_rI_J h 633 v7.toNat) k21 (fun c22 => ?_) (fun c22 => ?_)
      · replace H := H.1 c22
        refine vx_iload (n := 7) (q := 65) (by decide +kernel) rfl ?_
        refine vx_iload (n := 6) (q := 67) (by decide +kernel) rfl ?_
        refine vx_isub (q := 68) (by decide +kernel) ?_
        obtain ⟨k23, H⟩ := H
        refine vx_retI (q := 69) (by decide +kernel) k23 ?_
        exact H
      · replace H := H.2 c22
        refine vx_aload_n (n := 0) (q := 57) (by decide +kernel) rfl ?_
        refine vx_iconst (n := 2) (q := 58) (by decide +kernel) ?_
        refine vx_iload (n := 4) (q := 60) (by decide +kernel) rfl ?_
        refine vx_callV (i := .invokevirtual 241) (how := 3) (cm := 37) (np := 3) (q := 63) (args := [.ref 625, .int (vx_i 2), .int (vx_i v4)]) (rest := []) (by decide +kernel) rfl rfl rfl (vx_w2 (w := 3) (ml := 3) rfl (by decide +kernel)) (vx_rcv (kd := 9) (vx_Tk hT (by decide +kernel)) (by decide +kernel)) H (fun h24 hs24 H => ?_)
        have hT24 := vx_Tsh hT hs24
        replace H := H hT24
        refine vx_iload (n := 7) (q := 65) (by decide +kernel) rfl ?_
        refine vx_iload (n := 6) (q := 67) (by decide +kernel) rfl ?_
        refine vx_isub (q := 68) (by decide +kernel) ?_
        obtain ⟨k25, H⟩ := H
        refine vx_retI (q := 69) (by decide +kernel) k25 ?_
        exact H
    · replace H := H.2 c19
      refine vx_goto (off := 27) (q := 45) (t := 69) (by decide +kernel) ?_
      refine vx_iinc (n := 7) (m := 1) (x := v7) (q := 72) (lv' := [some (.ref 625), some (.long (vx_l v1)), none, some (.int (vx_i v3)), some (.int (vx_i v4)), some (.int (vx_i v5)), some (.int (vx_i v6)), some (.int (vx_i (v7 + 1)))]) (by decide +kernel) rfl rfl ?_
      refine vx_goto (off := (-59)) (q := 75) (t := 13) (by decide +kernel) ?_
      exact H
-- RuleHouseModel.isKnown(J)Z
theorem vg_41 {d : Nat} {h : ve_H} {P : Int → ve_H → Prop} {x1 : Int} (hT : vx_T 625 672 h) (H : vx_W d 41 8 [some (.ref 625), some (.long (vx_l x1)), none, some (.int (vx_i (16 * (vx_J h 625 48))))] [] h (vx_RI P)) : vx_CI d 41 [.ref 625, .long (vx_l x1)] h P := by
  refine vx_enter (ml := 4) (by decide +kernel) ?_
  show vx_W _ _ 0 [some (.ref 625), some (.long (vx_l x1)), none, none] [] h _
  refine vx_bipush (n := 16) (q := 2) (by decide +kernel) ?_
  refine vx_aload_n (n := 0) (q := 3) (by decide +kernel) rfl ?_
  refine vx_getI (idx := 238) (kd := 9) (s := 48) (fin := false) (q := 6) (by decide +kernel) (vx_Tk hT (by decide +kernel)) ?_
  refine vx_imul (q := 7) (by decide +kernel) ?_
  refine vx_istore_n (n := 3) (q := 8) (lv' := [some (.ref 625), some (.long (vx_l x1)), none, some (.int (vx_i (16 * (vx_J h 625 48))))]) (by decide +kernel) rfl ?_
  exact H
theorem vg_41_8 {d : Nat} {h : ve_H} {P : Int → ve_H → Prop} {v1 : Int} {v3 : Int} (hT : vx_T 625 672 h) (H : (0 ≤ (vx_J h 625 48) ∧ (vx_J h 625 48) < 2) ∧ (vx_rI v3) ∧ (vx_rI ((16 * (vx_J h 625 48)) + (vx_J h 631 (vx_J h 625 48).toNat))) ∧ ((((16 * (vx_J h 625 48)) + (vx_J h 631 (vx_J h 625 48).toNat)) ≤ v3 → P 0 h) ∧ (v3 < ((16 * (vx_J h 625 48)) + (vx_J h 631 (vx_J h 625 48).toNat)) → (0 ≤ v3 ∧ v3 < 32) ∧ (vx_rL v1) ∧ (((vx_K h 632 v3.toNat) ≠ v1 → vx_W d 41 8 [some (.ref 625), some (.long (vx_l v1)), none, some (.int (vx_i (v3 + 1)))] [] h (vx_RI P)) ∧ ((vx_K h 632 v3.toNat) = v1 → P 1 h))))) : vx_W d 41 8 [some (.ref 625), some (.long (vx_l v1)), none, some (.int (vx_i v3))] [] h (vx_RI P) := by
  refine vx_iload_n (n := 3) (q := 9) (by decide +kernel) rfl ?_
  refine vx_bipush (n := 16) (q := 11) (by decide +kernel) ?_
  refine vx_aload_n (n := 0) (q := 12) (by decide +kernel) rfl ?_
  refine vx_getI (idx := 238) (kd := 9) (s := 48) (fin := false) (q := 15) (by decide +kernel) (vx_Tk hT (by decide +kernel)) ?_
  refine vx_imul (q := 16) (by decide +kernel) ?_
  refine vx_aload_n (n := 0) (q := 17) (by decide +kernel) rfl ?_
  refine vx_getR (b := 631) (idx := 26) (kd := 9) (s := 12) (fin := true) (q := 20) (by decide +kernel) (vx_Tk hT (by decide +kernel)) (vx_Tr hT (kd := 9) (by decide +kernel) (by decide +kernel) (by decide +kernel)) ?_
  refine vx_aload_n (n := 0) (q := 21) (by decide +kernel) rfl ?_
  refine vx_getI (idx := 238) (kd := 9) (s := 48) (fin := false) (q := 24) (by decide +kernel) (vx_Tk hT (by decide +kernel)) ?_
  obtain ⟨k1, H⟩ := H
  refine vx_iaload (z := 2) (q := 25) (by decide +kernel) (vx_Tk hT (by decide +kernel)) (vx_Tz hT (by decide +kernel)) (vx_ix k1 (by decide)) ?_
  refine vx_iadd (q := 26) (by decide +kernel) ?_
  obtain ⟨k2, H⟩ := H
  obtain ⟨k3, H⟩ := H
  refine vx_icmp_ge (off := 22) (q := 29) (t := 48) (by decide +kernel) k2 k3 (fun c4 => ?_) (fun c4 => ?_)
  · replace H := H.1 c4
    refine vx_iconst (n := 0) (q := 49) (by decide +kernel) ?_
    refine vx_retZ (q := 50) (by decide +kernel) (Or.inl rfl) ?_
    exact H
  · replace H := H.2 c4
    refine vx_aload_n (n := 0) (q := 30) (by decide +kernel) rfl ?_
    refine vx_getR (b := 632) (idx := 29) (kd := 9) (s := 13) (fin := true) (q := 33) (by decide +kernel) (vx_Tk hT (by decide +kernel)) (vx_Tr hT (kd := 9) (by decide +kernel) (by decide +kernel) (by decide +kernel)) ?_
    refine vx_iload_n (n := 3) (q := 34) (by decide +kernel) rfl ?_
    obtain ⟨k5, H⟩ := H
    refine vx_laload (z := 32) (q := 35) (by decide +kernel) (vx_Tk hT (by decide +kernel)) (vx_Tz hT (by decide +kernel)) (vx_ix k5 (by decide)) ?_
    refine vx_lload_n (n := 1) (q := 36) (by decide +kernel) rfl ?_
    obtain ⟨k6, H⟩ := H
    refine vx_lc_ne (off := 5) (p := 37) (q := 40) (t := 42) (by decide +kernel) (vx_rL_K h 632 v3.toNat) k6 (fun c7 => ?_) (fun c7 => ?_)
    · replace H := H.1 c7
      refine vx_iinc (n := 3) (m := 1) (x := v3) (q := 45) (lv' := [some (.ref 625), some (.long (vx_l v1)), none, some (.int (vx_i (v3 + 1)))]) (by decide +kernel) rfl rfl ?_
      refine vx_goto (off := (-37)) (q := 48) (t := 8) (by decide +kernel) ?_
      exact H
    · replace H := H.2 c7
      refine vx_iconst (n := 1) (q := 41) (by decide +kernel) ?_
      refine vx_retZ (q := 42) (by decide +kernel) (Or.inr rfl) ?_
      exact H
-- RuleHouseModel.relation()I
theorem vg_43 {d : Nat} {h : ve_H} {P : Int → ve_H → Prop}  (hT : vx_T 625 672 h) (H : (0 ≤ (vx_J h 625 10) ∧ (vx_J h 625 10) < 602) ∧ (((vx_J h 627 (vx_J h 625 10).toNat) = 4 → (0 ≤ (vx_J h 625 10) ∧ (vx_J h 625 10) < 602) ∧ (((vx_J h 629 (vx_J h 625 10).toNat) = 61 → P (vx_J h 629 (vx_J h 625 10).toNat) h) ∧ ((vx_J h 629 (vx_J h 625 10).toNat) ≠ 61 → (((vx_J h 629 (vx_J h 625 10).toNat) = 301 → P (vx_J h 629 (vx_J h 625 10).toNat) h) ∧ ((vx_J h 629 (vx_J h 625 10).toNat) ≠ 301 → (((vx_J h 629 (vx_J h 625 10).toNat) = 60 → P (vx_J h 629 (vx_J h 625 10).toNat) h) ∧ ((vx_J h 629 (vx_J h 625 10).toNat) ≠ 60 → (((vx_J h 629 (vx_J h 625 10).toNat) = 302 → P (vx_J h 629 (vx_J h 625 10).toNat) h) ∧ ((vx_J h 629 (vx_J h 625 10).toNat) ≠ 302 → (((vx_J h 629 (vx_J h 625 10).toNat) = 62 → P (vx_J h 629 (vx_J h 625 10).toNat) h) ∧ ((vx_J h 629 (vx_J h 625 10).toNat) ≠ 62 → (((vx_J h 629 (vx_J h 625 10).toNat) ≠ 303 → P 0 h) ∧ ((vx_J h 629 (vx_J h 625 10).toNat) = 303 → P (vx_J h 629 (vx_J h 625 10).toNat) h))))))))))))) ∧ ((vx_J h 627 (vx_J h 625 10).toNat) ≠ 4 → P 0 h))) : vx_CI d 43 [.ref 625] h P := by
  refine vx_enter (ml := 2) (by decide +kernel) ?_
  show vx_W _ _ 0 [some (.ref 625), none] [] h _
  refine vx_aload_n (n := 0) (q := 1) (by decide +kernel) rfl ?_
  refine vx_getR (b := 627) (idx := 13) (kd := 9) (s := 6) (fin := true) (q := 4) (by decide +kernel) (vx_Tk hT (by decide +kernel)) (vx_Tr hT (kd := 9) (by decide +kernel) (by decide +kernel) (by decide +kernel)) ?_
  refine vx_aload_n (n := 0) (q := 5) (by decide +kernel) rfl ?_
  refine vx_getI (idx := 207) (kd := 9) (s := 10) (fin := false) (q := 8) (by decide +kernel) (vx_Tk hT (by decide +kernel)) ?_
  obtain ⟨k1, H⟩ := H
  refine vx_iaload (z := 602) (q := 9) (by decide +kernel) (vx_Tk hT (by decide +kernel)) (vx_Tz hT (by decide +kernel)) (vx_ix k1 (by decide)) ?_
  refine vx_iconst (n := 4) (q := 10) (by decide +kernel) ?_
  refine vx_icmp_eq (off := 5) (q := 13) (t := 15) (by decide +kernel) (vx_rI_J h 627 (vx_J h 625 10).toNat) (by decide) (fun c2 => ?_) (fun c2 => ?_)
  · replace H := H.1 c2
    refine vx_aload_n (n := 0) (q := 16) (by decide +kernel) rfl ?_
    refine vx_getR (b := 629) (idx := 19) (kd := 9) (s := 8) (fin := true) (q := 19) (by decide +kernel) (vx_Tk hT (by decide +kernel)) (vx_Tr hT (kd := 9) (by decide +kernel) (by decide +kernel) (by decide +kernel)) ?_
    refine vx_aload_n (n := 0) (q := 20) (by decide +kernel) rfl ?_
    refine vx_getI (idx := 207) (kd := 9) (s := 10) (fin := false) (q := 23) (by decide +kernel) (vx_Tk hT (by decide +kernel)) ?_
    obtain ⟨k3, H⟩ := H
    refine vx_iaload (z := 602) (q := 24) (by decide +kernel) (vx_Tk hT (by decide +kernel)) (vx_Tz hT (by decide +kernel)) (vx_ix k3 (by decide)) ?_
    refine vx_istore_n (n := 1) (q := 25) (lv' := [some (.ref 625), some (.int (vx_i (vx_J h 629 (vx_J h 625 10).toNat)))]) (by decide +kernel) rfl ?_
    refine vx_iload_n (n := 1) (q := 26) (by decide +kernel) rfl ?_
    refine vx_bipush (n := 61) (q := 28) (by decide +kernel) ?_
    refine vx_icmp_eq (off := 36) (q := 31) (t := 64) (by decide +kernel) (vx_rI_J h 629 (vx_J h 625 10).toNat) (by decide) (fun c4 => ?_) (fun c4 => ?_)
    · replace H := H.1 c4
      refine vx_iload_n (n := 1) (q := 65) (by decide +kernel) rfl ?_
      refine vx_goto (off := 4) (q := 68) (t := 69) (by decide +kernel) ?_
      refine vx_retI (q := 70) (by decide +kernel) (vx_rI_J h 629 (vx_J h 625 10).toNat) ?_
      exact H
    · replace H := H.2 c4
      refine vx_iload_n (n := 1) (q := 32) (by decide +kernel) rfl ?_
      refine vx_sipush (n := 301) (q := 35) (by decide +kernel) ?_
      refine vx_icmp_eq (off := 29) (q := 38) (t := 64) (by decide +kernel) (vx_rI_J h 629 (vx_J h 625 10).toNat) (by decide) (fun c5 => ?_) (fun c5 => ?_)
      · replace H := H.1 c5
        refine vx_iload_n (n := 1) (q := 65) (by decide +kernel) rfl ?_
        refine vx_goto (off := 4) (q := 68) (t := 69) (by decide +kernel) ?_
        refine vx_retI (q := 70) (by decide +kernel) (vx_rI_J h 629 (vx_J h 625 10).toNat) ?_
        exact H
      · replace H := H.2 c5
        refine vx_iload_n (n := 1) (q := 39) (by decide +kernel) rfl ?_
        refine vx_bipush (n := 60) (q := 41) (by decide +kernel) ?_
        refine vx_icmp_eq (off := 23) (q := 44) (t := 64) (by decide +kernel) (vx_rI_J h 629 (vx_J h 625 10).toNat) (by decide) (fun c6 => ?_) (fun c6 => ?_)
        · replace H := H.1 c6
          refine vx_iload_n (n := 1) (q := 65) (by decide +kernel) rfl ?_
          refine vx_goto (off := 4) (q := 68) (t := 69) (by decide +kernel) ?_
          refine vx_retI (q := 70) (by decide +kernel) (vx_rI_J h 629 (vx_J h 625 10).toNat) ?_
          exact H
        · replace H := H.2 c6
          refine vx_iload_n (n := 1) (q := 45) (by decide +kernel) rfl ?_
          refine vx_sipush (n := 302) (q := 48) (by decide +kernel) ?_
          refine vx_icmp_eq (off := 16) (q := 51) (t := 64) (by decide +kernel) (vx_rI_J h 629 (vx_J h 625 10).toNat) (by decide) (fun c7 => ?_) (fun c7 => ?_)
          · replace H := H.1 c7
            refine vx_iload_n (n := 1) (q := 65) (by decide +kernel) rfl ?_
            refine vx_goto (off := 4) (q := 68) (t := 69) (by decide +kernel) ?_
            refine vx_retI (q := 70) (by decide +kernel) (vx_rI_J h 629 (vx_J h 625 10).toNat) ?_
            exact H
          · replace H := H.2 c7
            refine vx_iload_n (n := 1) (q := 52) (by decide +kernel) rfl ?_
            refine vx_bipush (n := 62) (q := 54) (by decide +kernel) ?_
            refine vx_icmp_eq (off := 10) (q := 57) (t := 64) (by decide +kernel) (vx_rI_J h 629 (vx_J h 625 10).toNat) (by decide) (fun c8 => ?_) (fun c8 => ?_)
            · replace H := H.1 c8
              refine vx_iload_n (n := 1) (q := 65) (by decide +kernel) rfl ?_
              refine vx_goto (off := 4) (q := 68) (t := 69) (by decide +kernel) ?_
              refine vx_retI (q := 70) (by decide +kernel) (vx_rI_J h 629 (vx_J h 625 10).toNat) ?_
              exact H
            · replace H := H.2 c8
              refine vx_iload_n (n := 1) (q := 58) (by decide +kernel) rfl ?_
              refine vx_sipush (n := 303) (q := 61) (by decide +kernel) ?_
              refine vx_icmp_ne (off := 7) (q := 64) (t := 68) (by decide +kernel) (vx_rI_J h 629 (vx_J h 625 10).toNat) (by decide) (fun c9 => ?_) (fun c9 => ?_)
              · replace H := H.1 c9
                refine vx_iconst (n := 0) (q := 69) (by decide +kernel) ?_
                refine vx_retI (q := 70) (by decide +kernel) (by decide) ?_
                exact H
              · replace H := H.2 c9
                refine vx_iload_n (n := 1) (q := 65) (by decide +kernel) rfl ?_
                refine vx_goto (off := 4) (q := 68) (t := 69) (by decide +kernel) ?_
                refine vx_retI (q := 70) (by decide +kernel) (vx_rI_J h 629 (vx_J h 625 10).toNat) ?_
                exact H
  · replace H := H.2 c2
    refine vx_iconst (n := 0) (q := 14) (by decide +kernel) ?_
    refine vx_retI (q := 15) (by decide +kernel) (by decide) ?_
    exact H
-- RuleHouseModel.lay(II)V
theorem vg_44 {d : Nat} {h : ve_H} {P : ve_H → Prop} {x1 : Int} {x2 : Int} (hT : vx_T 625 672 h) (H : (0 ≤ ((4 * x1) + x2) ∧ ((4 * x1) + x2) < 1464) ∧ (∀ h2, h2 = vx_sJ h 645 ((4 * x1) + x2).toNat (vx_J h 625 46) → vx_T 625 672 h2 → (0 ≤ ((4 * x1) + x2) ∧ ((4 * x1) + x2) < 1464) ∧ (∀ h4, h4 = vx_sK h2 646 ((4 * x1) + x2).toNat (vx_K h2 625 47) → vx_T 625 672 h4 → P h4))) : vx_CV d 44 [.ref 625, .int (vx_i x1), .int (vx_i x2)] h P := by
  refine vx_enter (ml := 3) (by decide +kernel) ?_
  show vx_W _ _ 0 [some (.ref 625), some (.int (vx_i x1)), some (.int (vx_i x2))] [] h _
  refine vx_aload_n (n := 0) (q := 1) (by decide +kernel) rfl ?_
  refine vx_getR (b := 645) (idx := 68) (kd := 9) (s := 26) (fin := true) (q := 4) (by decide +kernel) (vx_Tk hT (by decide +kernel)) (vx_Tr hT (kd := 9) (by decide +kernel) (by decide +kernel) (by decide +kernel)) ?_
  refine vx_iconst (n := 4) (q := 5) (by decide +kernel) ?_
  refine vx_iload_n (n := 1) (q := 6) (by decide +kernel) rfl ?_
  refine vx_imul (q := 7) (by decide +kernel) ?_
  refine vx_iload_n (n := 2) (q := 8) (by decide +kernel) rfl ?_
  refine vx_iadd (q := 9) (by decide +kernel) ?_
  refine vx_aload_n (n := 0) (q := 10) (by decide +kernel) rfl ?_
  refine vx_getI (idx := 226) (kd := 9) (s := 46) (fin := false) (q := 13) (by decide +kernel) (vx_Tk hT (by decide +kernel)) ?_
  obtain ⟨k1, H⟩ := H
  refine vx_iastore (z := 1464) (q := 14) (by decide +kernel) (vx_Tk hT (by decide +kernel)) (vx_Tz hT (by decide +kernel)) (vx_ix k1 (by decide)) (fun h2 e2 => ?_)
  have hT2 := vx_TJ hT e2
  replace H := H h2 e2 hT2
  refine vx_aload_n (n := 0) (q := 15) (by decide +kernel) rfl ?_
  refine vx_getR (b := 646) (idx := 71) (kd := 9) (s := 27) (fin := true) (q := 18) (by decide +kernel) (vx_Tk hT2 (by decide +kernel)) (vx_Tr hT2 (kd := 9) (by decide +kernel) (by decide +kernel) (by decide +kernel)) ?_
  refine vx_iconst (n := 4) (q := 19) (by decide +kernel) ?_
  refine vx_iload_n (n := 1) (q := 20) (by decide +kernel) rfl ?_
  refine vx_imul (q := 21) (by decide +kernel) ?_
  refine vx_iload_n (n := 2) (q := 22) (by decide +kernel) rfl ?_
  refine vx_iadd (q := 23) (by decide +kernel) ?_
  refine vx_aload_n (n := 0) (q := 24) (by decide +kernel) rfl ?_
  refine vx_getL (idx := 229) (kd := 9) (s := 47) (fin := false) (q := 27) (by decide +kernel) (vx_Tk hT2 (by decide +kernel)) ?_
  obtain ⟨k3, H⟩ := H
  refine vx_lastore (z := 1464) (q := 28) (by decide +kernel) (vx_Tk hT2 (by decide +kernel)) (vx_Tz hT2 (by decide +kernel)) (vx_ix k3 (by decide)) (fun h4 e4 => ?_)
  have hT4 := vx_TK hT2 e4
  replace H := H h4 e4 hT4
  refine vx_retV (q := 29) (by decide +kernel) ?_
  exact H
