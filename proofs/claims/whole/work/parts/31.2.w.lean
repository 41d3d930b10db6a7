/-! Printed by my own program (wip/whole/gen_seg.py): walks of methods 172-180,217-221 -/
-- RuleHouse$Rows.clear()V
theorem vg_172 {d : Nat} {h : ve_H} {P : ve_H → Prop} {a0 : Nat} (o0 : vx_o 1 625 6 a0) (hT : vx_T 1 625 h) (H : (∀ h1, h1 = vx_sJ h a0 4 0 → vx_T 1 625 h1 → vx_CV d 217 [.ref (vx_r a0 2), .int (vx_i 0)] h1 (fun h2 => vx_T 1 625 h2 → P h2))) : vx_CV (d + 1) 172 [.ref a0] h P := by
  refine vx_enter (ml := 1) (by decide +kernel) ?_
  show vx_W _ _ 0 [some (.ref a0)] [] h _
  refine vx_aload_n (n := 0) (q := 1) (by decide +kernel) rfl ?_
  refine vx_iconst (n := 0) (q := 2) (by decide +kernel) ?_
  refine vx_putI (idx := 26) (kd := 6) (s := 4) (fin := false) (q := 5) (by decide +kernel) (vx_Tk hT o0) (fun h1 e1 => ?_)
  have hT1 := vx_TJ hT e1
  replace H := H h1 e1 hT1
  refine vx_aload_n (n := 0) (q := 6) (by decide +kernel) rfl ?_
  refine vx_getR (b := vx_r a0 2) (idx := 9) (kd := 6) (s := 2) (fin := true) (q := 9) (by decide +kernel) (vx_Tk hT1 o0) (vx_Tr hT1 (kd := 6) o0 (by decide +kernel) (vx_f6_2 o0).1) ?_
  refine vx_iconst (n := 0) (q := 10) (by decide +kernel) ?_
  refine vx_callV (i := .invokestatic 29) (how := 4) (cm := 217) (np := 2) (q := 13) (args := [.ref (vx_r a0 2), .int (vx_i 0)]) (rest := []) (by decide +kernel) rfl rfl rfl (vx_w2 (w := 2) (ml := 4) rfl (by decide +kernel)) rfl H (fun h2 hs2 H => ?_)
  have hT2 := vx_Tsh hT1 hs2
  replace H := H hT2
  refine vx_retV (q := 14) (by decide +kernel) ?_
  exact H
-- RuleHouse$Rows.find([J)I
theorem vg_173 {d : Nat} {h : ve_H} {P : Int → ve_H → Prop} {a0 : Nat} (o0 : vx_o 1 625 6 a0) {a1 : Nat} (o1 : vx_o 1 625 21 a1) (hT : vx_T 1 625 h) (H : vx_CI d 176 [.ref a0, .ref a1, .int (vx_i 0)] h (fun r1 h1 => vx_T 1 625 h1 → (0 ≤ r1 ∧ r1 < 512) ∧ (vx_rI ((vx_J h1 (vx_r a0 2) r1.toNat) - 1)) ∧ P ((vx_J h1 (vx_r a0 2) r1.toNat) - 1) h1)) : vx_CI (d + 1) 173 [.ref a0, .ref a1] h P := by
  refine vx_enter (ml := 2) (by decide +kernel) ?_
  show vx_W _ _ 0 [some (.ref a0), some (.ref a1)] [] h _
  refine vx_aload_n (n := 0) (q := 1) (by decide +kernel) rfl ?_
  refine vx_getR (b := vx_r a0 2) (idx := 9) (kd := 6) (s := 2) (fin := true) (q := 4) (by decide +kernel) (vx_Tk hT o0) (vx_Tr hT (kd := 6) o0 (by decide +kernel) (vx_f6_2 o0).1) ?_
  refine vx_aload_n (n := 0) (q := 5) (by decide +kernel) rfl ?_
  refine vx_aload_n (n := 1) (q := 6) (by decide +kernel) rfl ?_
  refine vx_iconst (n := 0) (q := 7) (by decide +kernel) ?_
  refine vx_callI (i := .invokevirtual 35) (how := 3) (cm := 176) (np := 3) (q := 10) (args := [.ref a0, .ref a1, .int (vx_i 0)]) (rest := [.ref (vx_r a0 2)]) (by decide +kernel) rfl rfl rfl (vx_w2 (w := 3) (ml := 9) rfl (by decide +kernel)) (vx_rcv (kd := 6) (vx_Tk hT o0) (by decide +kernel)) H (fun r1 h1 hr1 hs1 H => ?_)
  have hT1 := vx_Tsh hT hs1
  replace H := H hT1
  obtain ⟨k2, H⟩ := H
  refine vx_iaload (z := 512) (q := 11) (by decide +kernel) (vx_Tk hT1 (vx_f6_2 o0).2.1) (vx_Tz hT1 ⟨(vx_f6_2 o0).2.1.1, (vx_f6_2 o0).2.2⟩) (vx_ix k2 (by decide)) ?_
  refine vx_iconst (n := 1) (q := 12) (by decide +kernel) ?_
  refine vx_isub (q := 13) (by decide +kernel) ?_
  obtain ⟨k3, H⟩ := H
  refine vx_retI (q := 14) (by decide +kernel) k3 ?_
  exact H
-- RuleHouse$Rows.add([J)I
theorem vg_174 {d : Nat} {h : ve_H} {P : Int → ve_H → Prop} {a0 : Nat} (o0 : vx_o 1 625 6 a0) {a1 : Nat} (o1 : vx_o 1 625 21 a1) (hT : vx_T 1 625 h) (H : vx_CI d 176 [.ref a0, .ref a1, .int (vx_i 0)] h (fun r1 h1 => vx_T 1 625 h1 → (0 ≤ r1 ∧ r1 < 512) ∧ (((vx_J h1 (vx_r a0 2) r1.toNat) ≠ 0 → P ((-1)) h1) ∧ ((vx_J h1 (vx_r a0 2) r1.toNat) = 0 → (((vx_J h1 a0 4) ≤ 200 → ((0 : Int) ≤ (vx_J h1 a0 0) ∧ (0 : Int) ≤ 0 ∧ (0 : Int) ≤ ((vx_J h1 a0 4) * (vx_J h1 a0 0)) ∧ (0 : Int) + (vx_J h1 a0 0) ≤ ((vx_za a1) : Nat) ∧ (((vx_J h1 a0 4) * (vx_J h1 a0 0)) : Int) + (vx_J h1 a0 0) ≤ ((vx_za (vx_r a0 1)) : Nat)) ∧ (∀ h5, h5 = ve_cp h1 a1 0 (vx_r a0 1) ((vx_J h1 a0 4) * (vx_J h1 a0 0)).toNat h1 (vx_J h1 a0 0).toNat → vx_T 1 625 h5 → (0 ≤ (vx_J h5 a0 4) ∧ (vx_J h5 a0 4) < 201) ∧ (∀ h8, h8 = vx_sJ h5 (vx_r a0 3) (vx_J h5 a0 4).toNat (vx_J h5 a0 4) → vx_T 1 625 h8 → (∀ h9, h9 = vx_sJ h8 a0 4 ((vx_J h8 a0 4) + 1) → vx_T 1 625 h9 → (0 ≤ r1 ∧ r1 < 512) ∧ (∀ h11, h11 = vx_sJ h9 (vx_r a0 2) r1.toNat (vx_J h9 a0 4) → vx_T 1 625 h11 → (vx_rI ((vx_J h11 a0 4) - 1)) ∧ P ((vx_J h11 a0 4) - 1) h11))))) ∧ (200 < (vx_J h1 a0 4) → P ((-1)) h1)))))) : vx_CI (d + 1) 174 [.ref a0, .ref a1] h P := by
  refine vx_enter (ml := 3) (by decide +kernel) ?_
  show vx_W _ _ 0 [some (.ref a0), some (.ref a1), none] [] h _
  refine vx_aload_n (n := 0) (q := 1) (by decide +kernel) rfl ?_
  refine vx_aload_n (n := 1) (q := 2) (by decide +kernel) rfl ?_
  refine vx_iconst (n := 0) (q := 3) (by decide +kernel) ?_
  refine vx_callI (i := .invokevirtual 35) (how := 3) (cm := 176) (np := 3) (q := 6) (args := [.ref a0, .ref a1, .int (vx_i 0)]) (rest := []) (by decide +kernel) rfl rfl rfl (vx_w2 (w := 3) (ml := 9) rfl (by decide +kernel)) (vx_rcv (kd := 6) (vx_Tk hT o0) (by decide +kernel)) H (fun r1 h1 hr1 hs1 H => ?_)
  have hT1 := vx_Tsh hT hs1
  replace H := H hT1
  refine vx_istore_n (n := 2) (q := 7) (lv' := [some (.ref a0), some (.ref a1), some (.int (vx_i r1))]) (by decide +kernel) rfl ?_
  refine vx_aload_n (n := 0) (q := 8) (by decide +kernel) rfl ?_
  refine vx_getR (b := vx_r a0 2) (idx := 9) (kd := 6) (s := 2) (fin := true) (q := 11) (by decide +kernel) (vx_Tk hT1 o0) (vx_Tr hT1 (kd := 6) o0 (by decide +kernel) (vx_f6_2 o0).1) ?_
  refine vx_iload_n (n := 2) (q := 12) (by decide +kernel) rfl ?_
  obtain ⟨k2, H⟩ := H
  refine vx_iaload (z := 512) (q := 13) (by decide +kernel) (vx_Tk hT1 (vx_f6_2 o0).2.1) (vx_Tz hT1 ⟨(vx_f6_2 o0).2.1.1, (vx_f6_2 o0).2.2⟩) (vx_ix k2 (by decide)) ?_
  refine vx_if0_ne (off := 13) (q := 16) (t := 26) (by decide +kernel) (vx_rI_J h1 (vx_r a0 2) r1.toNat) (fun c3 => ?_) (fun c3 => ?_)
  · replace H := H.1 c3
    refine vx_iconst (n := (-1)) (q := 27) (by decide +kernel) ?_
    refine vx_retI (q := 28) (by decide +kernel) (by decide) ?_
    exact H
  · replace H := H.2 c3
    refine vx_aload_n (n := 0) (q := 17) (by decide +kernel) rfl ?_
    refine vx_getI (idx := 26) (kd := 6) (s := 4) (fin := false) (q := 20) (by decide +kernel) (vx_Tk hT1 o0) ?_
    refine vx_sipush (n := 200) (q := 23) (by decide +kernel) ?_
    refine vx_icmp_le (off := 5) (q := 26) (t := 28) (by decide +kernel) (vx_rI_J h1 a0 4) (by decide) (fun c4 => ?_) (fun c4 => ?_)
    · replace H := H.1 c4
      refine vx_aload_n (n := 1) (q := 29) (by decide +kernel) rfl ?_
      refine vx_iconst (n := 0) (q := 30) (by decide +kernel) ?_
      refine vx_aload_n (n := 0) (q := 31) (by decide +kernel) rfl ?_
      refine vx_getR (b := vx_r a0 1) (idx := 22) (kd := 6) (s := 1) (fin := true) (q := 34) (by decide +kernel) (vx_Tk hT1 o0) (vx_Tr hT1 (kd := 6) o0 (by decide +kernel) (vx_f6_1 o0).1) ?_
      refine vx_aload_n (n := 0) (q := 35) (by decide +kernel) rfl ?_
      refine vx_getI (idx := 26) (kd := 6) (s := 4) (fin := false) (q := 38) (by decide +kernel) (vx_Tk hT1 o0) ?_
      refine vx_aload_n (n := 0) (q := 39) (by decide +kernel) rfl ?_
      refine vx_getI (idx := 18) (kd := 6) (s := 0) (fin := true) (q := 42) (by decide +kernel) (vx_Tk hT1 o0) ?_
      refine vx_imul (q := 43) (by decide +kernel) ?_
      refine vx_aload_n (n := 0) (q := 44) (by decide +kernel) rfl ?_
      refine vx_getI (idx := 18) (kd := 6) (s := 0) (fin := true) (q := 47) (by decide +kernel) (vx_Tk hT1 o0) ?_
      obtain ⟨k6, H⟩ := H
      refine vx_acopy (i := .invokestatic 39) (np := 5) (cm := 0) (q := 50) (z1 := (vx_za a1)) (z2 := (vx_za (vx_r a0 1))) (by decide +kernel) (vx_Tk hT1 o1) (vx_Tk hT1 (vx_f6_1 o0).2) (vx_Tz hT1 ⟨o1.1, rfl⟩) (vx_Tz hT1 ⟨(vx_f6_1 o0).2.1, rfl⟩) (vx_cx k6 (vx_za_lt _) (vx_za_lt _)) rfl (fun h5 e5 => ?_)
      have hT5 := vx_Tcp hT1 e5
      replace H := H h5 e5 hT5
      refine vx_aload_n (n := 0) (q := 51) (by decide +kernel) rfl ?_
      refine vx_getR (b := vx_r a0 3) (idx := 15) (kd := 6) (s := 3) (fin := true) (q := 54) (by decide +kernel) (vx_Tk hT5 o0) (vx_Tr hT5 (kd := 6) o0 (by decide +kernel) (vx_f6_3 o0).1) ?_
      refine vx_aload_n (n := 0) (q := 55) (by decide +kernel) rfl ?_
      refine vx_getI (idx := 26) (kd := 6) (s := 4) (fin := false) (q := 58) (by decide +kernel) (vx_Tk hT5 o0) ?_
      refine vx_aload_n (n := 0) (q := 59) (by decide +kernel) rfl ?_
      refine vx_getI (idx := 26) (kd := 6) (s := 4) (fin := false) (q := 62) (by decide +kernel) (vx_Tk hT5 o0) ?_
      obtain ⟨k7, H⟩ := H
      refine vx_iastore (z := 201) (q := 63) (by decide +kernel) (vx_Tk hT5 (vx_f6_3 o0).2.1) (vx_Tz hT5 ⟨(vx_f6_3 o0).2.1.1, (vx_f6_3 o0).2.2⟩) (vx_ix k7 (by decide)) (fun h8 e8 => ?_)
      have hT8 := vx_TJ hT5 e8
      replace H := H h8 e8 hT8
      refine vx_aload_n (n := 0) (q := 64) (by decide +kernel) rfl ?_
      refine vx_dupR (q := 65) (by decide +kernel) ?_
      refine vx_getI (idx := 26) (kd := 6) (s := 4) (fin := false) (q := 68) (by decide +kernel) (vx_Tk hT8 o0) ?_
      refine vx_iconst (n := 1) (q := 69) (by decide +kernel) ?_
      refine vx_iadd (q := 70) (by decide +kernel) ?_
      refine vx_putI (idx := 26) (kd := 6) (s := 4) (fin := false) (q := 73) (by decide +kernel) (vx_Tk hT8 o0) (fun h9 e9 => ?_)
      have hT9 := vx_TJ hT8 e9
      replace H := H h9 e9 hT9
      refine vx_aload_n (n := 0) (q := 74) (by decide +kernel) rfl ?_
      refine vx_getR (b := vx_r a0 2) (idx := 9) (kd := 6) (s := 2) (fin := true) (q := 77) (by decide +kernel) (vx_Tk hT9 o0) (vx_Tr hT9 (kd := 6) o0 (by decide +kernel) (vx_f6_2 o0).1) ?_
      refine vx_iload_n (n := 2) (q := 78) (by decide +kernel) rfl ?_
      refine vx_aload_n (n := 0) (q := 79) (by decide +kernel) rfl ?_
      refine vx_getI (idx := 26) (kd := 6) (s := 4) (fin := false) (q := 82) (by decide +kernel) (vx_Tk hT9 o0) ?_
      obtain ⟨k10, H⟩ := H
      refine vx_iastore (z := 512) (q := 83) (by decide +kernel) (vx_Tk hT9 (vx_f6_2 o0).2.1) (vx_Tz hT9 ⟨(vx_f6_2 o0).2.1.1, (vx_f6_2 o0).2.2⟩) (vx_ix k10 (by decide)) (fun h11 e11 => ?_)
      have hT11 := vx_TJ hT9 e11
      replace H := H h11 e11 hT11
      refine vx_aload_n (n := 0) (q := 84) (by decide +kernel) rfl ?_
      refine vx_getI (idx := 26) (kd := 6) (s := 4) (fin := false) (q := 87) (by decide +kernel) (vx_Tk hT11 o0) ?_
      refine vx_iconst (n := 1) (q := 88) (by decide +kernel) ?_
      refine vx_isub (q := 89) (by decide +kernel) ?_
      obtain ⟨k12, H⟩ := H
      refine vx_retI (q := 90) (by decide +kernel) k12 ?_
      exact H
    · replace H := H.2 c4
      refine vx_iconst (n := (-1)) (q := 27) (by decide +kernel) ?_
      refine vx_retI (q := 28) (by decide +kernel) (by decide) ?_
      exact H
-- RuleHouse$Rows.remove(I)V
theorem vg_175 {d : Nat} {h : ve_H} {P : ve_H → Prop} {a0 : Nat} (o0 : vx_o 1 625 6 a0) {x1 : Int} (hT : vx_T 1 625 h) (H : (vx_rI x1) ∧ ((x1 < 0 → P h) ∧ (0 ≤ x1 → ((x1 < (vx_J h a0 4) → (∀ h4, h4 = vx_sJ h a0 4 ((vx_J h a0 4) - 1) → vx_T 1 625 h4 → ((0 : Int) ≤ (vx_J h4 a0 0) ∧ (0 : Int) ≤ ((vx_J h4 a0 4) * (vx_J h4 a0 0)) ∧ (0 : Int) ≤ (x1 * (vx_J h4 a0 0)) ∧ (((vx_J h4 a0 4) * (vx_J h4 a0 0)) : Int) + (vx_J h4 a0 0) ≤ ((vx_za (vx_r a0 1)) : Nat) ∧ ((x1 * (vx_J h4 a0 0)) : Int) + (vx_J h4 a0 0) ≤ ((vx_za (vx_r a0 1)) : Nat)) ∧ (∀ h5, h5 = ve_cp h4 (vx_r a0 1) ((vx_J h4 a0 4) * (vx_J h4 a0 0)).toNat (vx_r a0 1) (x1 * (vx_J h4 a0 0)).toNat h4 (vx_J h4 a0 0).toNat → vx_T 1 625 h5 → vx_CV d 217 [.ref (vx_r a0 2), .int (vx_i 0)] h5 (fun h7 => vx_T 1 625 h7 → vx_W (d + 1) 175 63 [some (.ref a0), some (.int (vx_i x1)), some (.int (vx_i 0))] [] h7 (vx_RV P))))) ∧ ((vx_J h a0 4) ≤ x1 → P h))))) : vx_CV (d + 1) 175 [.ref a0, .int (vx_i x1)] h P := by
  refine vx_enter (ml := 3) (by decide +kernel) ?_
  show vx_W _ _ 0 [some (.ref a0), some (.int (vx_i x1)), none] [] h _
  refine vx_iload_n (n := 1) (q := 1) (by decide +kernel) rfl ?_
  obtain ⟨k1, H⟩ := H
  refine vx_if0_lt (off := 11) (q := 4) (t := 12) (by decide +kernel) k1 (fun c2 => ?_) (fun c2 => ?_)
  · replace H := H.1 c2
    refine vx_retV (q := 13) (by decide +kernel) ?_
    exact H
  · replace H := H.2 c2
    refine vx_iload_n (n := 1) (q := 5) (by decide +kernel) rfl ?_
    refine vx_aload_n (n := 0) (q := 6) (by decide +kernel) rfl ?_
    refine vx_getI (idx := 26) (kd := 6) (s := 4) (fin := false) (q := 9) (by decide +kernel) (vx_Tk hT o0) ?_
    refine vx_icmp_lt (off := 4) (q := 12) (t := 13) (by decide +kernel) k1 (vx_rI_J h a0 4) (fun c3 => ?_) (fun c3 => ?_)
    · replace H := H.1 c3
      refine vx_aload_n (n := 0) (q := 14) (by decide +kernel) rfl ?_
      refine vx_dupR (q := 15) (by decide +kernel) ?_
      refine vx_getI (idx := 26) (kd := 6) (s := 4) (fin := false) (q := 18) (by decide +kernel) (vx_Tk hT o0) ?_
      refine vx_iconst (n := 1) (q := 19) (by decide +kernel) ?_
      refine vx_isub (q := 20) (by decide +kernel) ?_
      refine vx_putI (idx := 26) (kd := 6) (s := 4) (fin := false) (q := 23) (by decide +kernel) (vx_Tk hT o0) (fun h4 e4 => ?_)
      have hT4 := vx_TJ hT e4
      replace H := H h4 e4 hT4
      refine vx_aload_n (n := 0) (q := 24) (by decide +kernel) rfl ?_
      refine vx_getR (b := vx_r a0 1) (idx := 22) (kd := 6) (s := 1) (fin := true) (q := 27) (by decide +kernel) (vx_Tk hT4 o0) (vx_Tr hT4 (kd := 6) o0 (by decide +kernel) (vx_f6_1 o0).1) ?_
      refine vx_aload_n (n := 0) (q := 28) (by decide +kernel) rfl ?_
      refine vx_getI (idx := 26) (kd := 6) (s := 4) (fin := false) (q := 31) (by decide +kernel) (vx_Tk hT4 o0) ?_
      refine vx_aload_n (n := 0) (q := 32) (by decide +kernel) rfl ?_
      refine vx_getI (idx := 18) (kd := 6) (s := 0) (fin := true) (q := 35) (by decide +kernel) (vx_Tk hT4 o0) ?_
      refine vx_imul (q := 36) (by decide +kernel) ?_
      refine vx_aload_n (n := 0) (q := 37) (by decide +kernel) rfl ?_
      refine vx_getR (b := vx_r a0 1) (idx := 22) (kd := 6) (s := 1) (fin := true) (q := 40) (by decide +kernel) (vx_Tk hT4 o0) (vx_Tr hT4 (kd := 6) o0 (by decide +kernel) (vx_f6_1 o0).1) ?_
      refine vx_iload_n (n := 1) (q := 41) (by decide +kernel) rfl ?_
      refine vx_aload_n (n := 0) (q := 42) (by decide +kernel) rfl ?_
      refine vx_getI (idx := 18) (kd := 6) (s := 0) (fin := true) (q := 45) (by decide +kernel) (vx_Tk hT4 o0) ?_
      refine vx_imul (q := 46) (by decide +kernel) ?_
      refine vx_aload_n (n := 0) (q := 47) (by decide +kernel) rfl ?_
      refine vx_getI (idx := 18) (kd := 6) (s := 0) (fin := true) (q := 50) (by decide +kernel) (vx_Tk hT4 o0) ?_
      obtain ⟨k6, H⟩ := H
      refine vx_acopy (i := .invokestatic 39) (np := 5) (cm := 0) (q := 53) (z1 := (vx_za (vx_r a0 1))) (z2 := (vx_za (vx_r a0 1))) (by decide +kernel) (vx_Tk hT4 (vx_f6_1 o0).2) (vx_Tk hT4 (vx_f6_1 o0).2) (vx_Tz hT4 ⟨(vx_f6_1 o0).2.1, rfl⟩) (vx_Tz hT4 ⟨(vx_f6_1 o0).2.1, rfl⟩) (vx_cx k6 (vx_za_lt _) (vx_za_lt _)) rfl (fun h5 e5 => ?_)
      have hT5 := vx_Tcp hT4 e5
      replace H := H h5 e5 hT5
      refine vx_aload_n (n := 0) (q := 54) (by decide +kernel) rfl ?_
      refine vx_getR (b := vx_r a0 2) (idx := 9) (kd := 6) (s := 2) (fin := true) (q := 57) (by decide +kernel) (vx_Tk hT5 o0) (vx_Tr hT5 (kd := 6) o0 (by decide +kernel) (vx_f6_2 o0).1) ?_
      refine vx_iconst (n := 0) (q := 58) (by decide +kernel) ?_
      refine vx_callV (i := .invokestatic 29) (how := 4) (cm := 217) (np := 2) (q := 61) (args := [.ref (vx_r a0 2), .int (vx_i 0)]) (rest := []) (by decide +kernel) rfl rfl rfl (vx_w2 (w := 2) (ml := 4) rfl (by decide +kernel)) rfl H (fun h7 hs7 H => ?_)
      have hT7 := vx_Tsh hT5 hs7
      replace H := H hT7
      refine vx_iconst (n := 0) (q := 62) (by decide +kernel) ?_
      refine vx_istore_n (n := 2) (q := 63) (lv' := [some (.ref a0), some (.int (vx_i x1)), some (.int (vx_i 0))]) (by decide +kernel) rfl ?_
      exact H
    · replace H := H.2 c3
      refine vx_retV (q := 13) (by decide +kernel) ?_
      exact H
theorem vg_175_63 {d : Nat} {h : ve_H} {P : ve_H → Prop} {v0 : Nat} (ov0 : vx_o 1 625 6 v0) {v1 : Int} {v2 : Int} (hT : vx_T 1 625 h) (H : (vx_rI v2) ∧ (((vx_J h v0 4) ≤ v2 → P h) ∧ (v2 < (vx_J h v0 4) → vx_CI d 176 [.ref v0, .ref (vx_r v0 1), .int (vx_i (v2 * (vx_J h v0 0)))] h (fun r3 h3 => vx_T 1 625 h3 → (0 ≤ r3 ∧ r3 < 512) ∧ (∀ h5, h5 = vx_sJ h3 (vx_r v0 2) r3.toNat (v2 + 1) → vx_T 1 625 h5 → vx_W (d + 1) 175 63 [some (.ref v0), some (.int (vx_i v1)), some (.int (vx_i (v2 + 1)))] [] h5 (vx_RV P)))))) : vx_W (d + 1) 175 63 [some (.ref v0), some (.int (vx_i v1)), some (.int (vx_i v2))] [] h (vx_RV P) := by
  refine vx_iload_n (n := 2) (q := 64) (by decide +kernel) rfl ?_
  refine vx_aload_n (n := 0) (q := 65) (by decide +kernel) rfl ?_
  refine vx_getI (idx := 26) (kd := 6) (s := 4) (fin := false) (q := 68) (by decide +kernel) (vx_Tk hT ov0) ?_
  obtain ⟨k1, H⟩ := H
  refine vx_icmp_ge (off := 31) (q := 71) (t := 99) (by decide +kernel) k1 (vx_rI_J h v0 4) (fun c2 => ?_) (fun c2 => ?_)
  · replace H := H.1 c2
    refine vx_retV (q := 100) (by decide +kernel) ?_
    exact H
  · replace H := H.2 c2
    refine vx_aload_n (n := 0) (q := 72) (by decide +kernel) rfl ?_
    refine vx_getR (b := vx_r v0 2) (idx := 9) (kd := 6) (s := 2) (fin := true) (q := 75) (by decide +kernel) (vx_Tk hT ov0) (vx_Tr hT (kd := 6) ov0 (by decide +kernel) (vx_f6_2 ov0).1) ?_
    refine vx_aload_n (n := 0) (q := 76) (by decide +kernel) rfl ?_
    refine vx_aload_n (n := 0) (q := 77) (by decide +kernel) rfl ?_
    refine vx_getR (b := vx_r v0 1) (idx := 22) (kd := 6) (s := 1) (fin := true) (q := 80) (by decide +kernel) (vx_Tk hT ov0) (vx_Tr hT (kd := 6) ov0 (by decide +kernel) (vx_f6_1 ov0).1) ?_
    refine vx_iload_n (n := 2) (q := 81) (by decide +kernel) rfl ?_
    refine vx_aload_n (n := 0) (q := 82) (by decide +kernel) rfl ?_
    refine vx_getI (idx := 18) (kd := 6) (s := 0) (fin := true) (q := 85) (by decide +kernel) (vx_Tk hT ov0) ?_
    refine vx_imul (q := 86) (by decide +kernel) ?_
    refine vx_callI (i := .invokevirtual 35) (how := 3) (cm := 176) (np := 3) (q := 89) (args := [.ref v0, .ref (vx_r v0 1), .int (vx_i (v2 * (vx_J h v0 0)))]) (rest := [.ref (vx_r v0 2)]) (by decide +kernel) rfl rfl rfl (vx_w2 (w := 3) (ml := 9) rfl (by decide +kernel)) (vx_rcv (kd := 6) (vx_Tk hT ov0) (by decide +kernel)) H (fun r3 h3 hr3 hs3 H => ?_)
    have hT3 := vx_Tsh hT hs3
    replace H := H hT3
    refine vx_iload_n (n := 2) (q := 90) (by decide +kernel) rfl ?_
    refine vx_iconst (n := 1) (q := 91) (by decide +kernel) ?_
    refine vx_iadd (q := 92) (by decide +kernel) ?_
    obtain ⟨k4, H⟩ := H
    refine vx_iastore (z := 512) (q := 93) (by decide +kernel) (vx_Tk hT3 (vx_f6_2 ov0).2.1) (vx_Tz hT3 ⟨(vx_f6_2 ov0).2.1.1, (vx_f6_2 ov0).2.2⟩) (vx_ix k4 (by decide)) (fun h5 e5 => ?_)
    have hT5 := vx_TJ hT3 e5
    replace H := H h5 e5 hT5
    refine vx_iinc (n := 2) (m := 1) (x := v2) (q := 96) (lv' := [some (.ref v0), some (.int (vx_i v1)), some (.int (vx_i (v2 + 1)))]) (by decide +kernel) rfl rfl ?_
    refine vx_goto (off := (-33)) (q := 99) (t := 63) (by decide +kernel) ?_
    exact H
-- RuleHouse$Rows.slotOf([JI)I
theorem vg_176 {d : Nat} {h : ve_H} {P : Int → ve_H → Prop} {a0 : Nat} (o0 : vx_o 1 625 6 a0) {a1 : Nat} (o1 : vx_o 1 625 21 a1) {x2 : Int} (hT : vx_T 1 625 h) (H : vx_W d 176 5 [some (.ref a0), some (.ref a1), some (.int (vx_i x2)), some (.long (vx_l 0)), none, some (.int (vx_i 0)), none, none, none] [] h (vx_RI P)) : vx_CI d 176 [.ref a0, .ref a1, .int (vx_i x2)] h P := by
  refine vx_enter (ml := 9) (by decide +kernel) ?_
  show vx_W _ _ 0 [some (.ref a0), some (.ref a1), some (.int (vx_i x2)), none, none, none, none, none, none] [] h _
  refine vx_lconst (n := 0) (m := 0) (q := 1) (by decide +kernel) ?_
  refine vx_lstore_n (n := 3) (q := 2) (lv' := [some (.ref a0), some (.ref a1), some (.int (vx_i x2)), some (.long (vx_l 0)), none, none, none, none, none]) (by decide +kernel) rfl ?_
  refine vx_iconst (n := 0) (q := 3) (by decide +kernel) ?_
  refine vx_istore (n := 5) (q := 5) (lv' := [some (.ref a0), some (.ref a1), some (.int (vx_i x2)), some (.long (vx_l 0)), none, some (.int (vx_i 0)), none, none, none]) (by decide +kernel) rfl ?_
  exact H
theorem vg_176_5 {d : Nat} {h : ve_H} {P : Int → ve_H → Prop} {v0 : Nat} (ov0 : vx_o 1 625 6 v0) {v1 : Nat} (ov1 : vx_o 1 625 21 v1) {v2 : Int} {v3 : Int} {v5 : Int} (hT : vx_T 1 625 h) (H : (vx_rI v5) ∧ (((vx_J h v0 0) ≤ v5 → vx_W d 176 52 [some (.ref v0), some (.ref v1), some (.int (vx_i v2)), some (.long (vx_l v3)), none, some (.int (vx_i (vx_and (vx_lushr v3 40) 511))), some (.int (vx_i 0)), none, none] [] h (vx_RI P)) ∧ (v5 < (vx_J h v0 0) → (0 ≤ (v2 + v5) ∧ (v2 + v5) < (vx_za v1)) ∧ vx_W d 176 5 [some (.ref v0), some (.ref v1), some (.int (vx_i v2)), some (.long (vx_l ((vx_lxor (vx_lxor v3 (vx_lushr v3 29)) (vx_K h v1 (v2 + v5).toNat)) * ((-7046029254386353131))))), none, some (.int (vx_i (v5 + 1))), none, none, none] [] h (vx_RI P)))) : vx_W d 176 5 [some (.ref v0), some (.ref v1), some (.int (vx_i v2)), some (.long (vx_l v3)), none, some (.int (vx_i v5)), none, none, none] [] h (vx_RI P) := by
  refine vx_iload (n := 5) (q := 7) (by decide +kernel) rfl ?_
  refine vx_aload_n (n := 0) (q := 8) (by decide +kernel) rfl ?_
  refine vx_getI (idx := 18) (kd := 6) (s := 0) (fin := true) (q := 11) (by decide +kernel) (vx_Tk hT ov0) ?_
  obtain ⟨k1, H⟩ := H
  refine vx_icmp_ge (off := 27) (q := 14) (t := 38) (by decide +kernel) k1 (vx_rI_J h v0 0) (fun c2 => ?_) (fun c2 => ?_)
  · replace H := H.1 c2
    refine vx_lload_n (n := 3) (q := 39) (by decide +kernel) rfl ?_
    refine vx_bipush (n := 40) (q := 41) (by decide +kernel) ?_
    refine vx_lushr1 (q := 42) (by decide +kernel) ?_
    refine vx_l2i (q := 43) (by decide +kernel) ?_
    refine vx_sipush (n := 511) (q := 46) (by decide +kernel) ?_
    refine vx_iand (q := 47) (by decide +kernel) ?_
    refine vx_istore (n := 5) (q := 49) (lv' := [some (.ref v0), some (.ref v1), some (.int (vx_i v2)), some (.long (vx_l v3)), none, some (.int (vx_i (vx_and (vx_lushr v3 40) 511))), none, none, none]) (by decide +kernel) rfl ?_
    refine vx_iconst (n := 0) (q := 50) (by decide +kernel) ?_
    refine vx_istore (n := 6) (q := 52) (lv' := [some (.ref v0), some (.ref v1), some (.int (vx_i v2)), some (.long (vx_l v3)), none, some (.int (vx_i (vx_and (vx_lushr v3 40) 511))), some (.int (vx_i 0)), none, none]) (by decide +kernel) rfl ?_
    exact H
  · replace H := H.2 c2
    refine vx_lload_n (n := 3) (q := 15) (by decide +kernel) rfl ?_
    refine vx_lload_n (n := 3) (q := 16) (by decide +kernel) rfl ?_
    refine vx_bipush (n := 29) (q := 18) (by decide +kernel) ?_
    refine vx_lushr1 (q := 19) (by decide +kernel) ?_
    refine vx_lxor1 (q := 20) (by decide +kernel) ?_
    refine vx_aload_n (n := 1) (q := 21) (by decide +kernel) rfl ?_
    refine vx_iload_n (n := 2) (q := 22) (by decide +kernel) rfl ?_
    refine vx_iload (n := 5) (q := 24) (by decide +kernel) rfl ?_
    refine vx_iadd (q := 25) (by decide +kernel) ?_
    obtain ⟨k3, H⟩ := H
    refine vx_laload (z := (vx_za v1)) (q := 26) (by decide +kernel) (vx_Tk hT ov1) (vx_Tz hT ⟨ov1.1, rfl⟩) (vx_ix k3 (vx_za_lt _)) ?_
    refine vx_lxor1 (q := 27) (by decide +kernel) ?_
    refine vx_ldc (idx := 45) (v := (-7046029254386353131)) (m := (-7046029254386353131)) (q := 30) (by decide +kernel) ?_
    refine vx_lmul (q := 31) (by decide +kernel) ?_
    refine vx_lstore_n (n := 3) (q := 32) (lv' := [some (.ref v0), some (.ref v1), some (.int (vx_i v2)), some (.long (vx_l ((vx_lxor (vx_lxor v3 (vx_lushr v3 29)) (vx_K h v1 (v2 + v5).toNat)) * ((-7046029254386353131))))), none, some (.int (vx_i v5)), none, none, none]) (by decide +kernel) rfl ?_
    refine vx_iinc (n := 5) (m := 1) (x := v5) (q := 35) (lv' := [some (.ref v0), some (.ref v1), some (.int (vx_i v2)), some (.long (vx_l ((vx_lxor (vx_lxor v3 (vx_lushr v3 29)) (vx_K h v1 (v2 + v5).toNat)) * ((-7046029254386353131))))), none, some (.int (vx_i (v5 + 1))), none, none, none]) (by decide +kernel) rfl rfl ?_
    refine vx_goto (off := (-30)) (q := 38) (t := 5) (by decide +kernel) ?_
    exact H
theorem vg_176_52 {d : Nat} {h : ve_H} {P : Int → ve_H → Prop} {v0 : Nat} (ov0 : vx_o 1 625 6 v0) {v1 : Nat} (ov1 : vx_o 1 625 21 v1) {v2 : Int} {v3 : Int} {v5 : Int} {v6 : Int} {v7 : Option Value} {v8 : Option Value} (hT : vx_T 1 625 h) (H : (vx_rI v6) ∧ ((512 ≤ v6 → (vx_rI v5) ∧ P v5 h) ∧ (v6 < 512 → (0 ≤ v5 ∧ v5 < 512) ∧ (((vx_J h (vx_r v0 2) v5.toNat) = 0 → (vx_rI v5) ∧ P v5 h) ∧ ((vx_J h (vx_r v0 2) v5.toNat) ≠ 0 → (0 ≤ v5 ∧ v5 < 512) ∧ vx_W d 176 89 [some (.ref v0), some (.ref v1), some (.int (vx_i v2)), some (.long (vx_l v3)), none, some (.int (vx_i v5)), some (.int (vx_i v6)), some (.int (vx_i (((vx_J h (vx_r v0 2) v5.toNat) - 1) * (vx_J h v0 0)))), some (.int (vx_i 0))] [] h (vx_RI P)))))) : vx_W d 176 52 [some (.ref v0), some (.ref v1), some (.int (vx_i v2)), some (.long (vx_l v3)), none, some (.int (vx_i v5)), some (.int (vx_i v6)), v7, v8] [] h (vx_RI P) := by
  refine vx_iload (n := 6) (q := 54) (by decide +kernel) rfl ?_
  refine vx_sipush (n := 512) (q := 57) (by decide +kernel) ?_
  obtain ⟨k1, H⟩ := H
  refine vx_icmp_ge (off := 95) (q := 60) (t := 152) (by decide +kernel) k1 (by decide) (fun c2 => ?_) (fun c2 => ?_)
  · replace H := H.1 c2
    refine vx_iload (n := 5) (q := 154) (by decide +kernel) rfl ?_
    obtain ⟨k3, H⟩ := H
    refine vx_retI (q := 155) (by decide +kernel) k3 ?_
    exact H
  · replace H := H.2 c2
    refine vx_aload_n (n := 0) (q := 61) (by decide +kernel) rfl ?_
    refine vx_getR (b := vx_r v0 2) (idx := 9) (kd := 6) (s := 2) (fin := true) (q := 64) (by decide +kernel) (vx_Tk hT ov0) (vx_Tr hT (kd := 6) ov0 (by decide +kernel) (vx_f6_2 ov0).1) ?_
    refine vx_iload (n := 5) (q := 66) (by decide +kernel) rfl ?_
    obtain ⟨k4, H⟩ := H
    refine vx_iaload (z := 512) (q := 67) (by decide +kernel) (vx_Tk hT (vx_f6_2 ov0).2.1) (vx_Tz hT ⟨(vx_f6_2 ov0).2.1.1, (vx_f6_2 ov0).2.2⟩) (vx_ix k4 (by decide)) ?_
    refine vx_if0_eq (off := 85) (q := 70) (t := 152) (by decide +kernel) (vx_rI_J h (vx_r v0 2) v5.toNat) (fun c5 => ?_) (fun c5 => ?_)
    · replace H := H.1 c5
      refine vx_iload (n := 5) (q := 154) (by decide +kernel) rfl ?_
      obtain ⟨k6, H⟩ := H
      refine vx_retI (q := 155) (by decide +kernel) k6 ?_
      exact H
    · replace H := H.2 c5
      refine vx_aload_n (n := 0) (q := 71) (by decide +kernel) rfl ?_
      refine vx_getR (b := vx_r v0 2) (idx := 9) (kd := 6) (s := 2) (fin := true) (q := 74) (by decide +kernel) (vx_Tk hT ov0) (vx_Tr hT (kd := 6) ov0 (by decide +kernel) (vx_f6_2 ov0).1) ?_
      refine vx_iload (n := 5) (q := 76) (by decide +kernel) rfl ?_
      obtain ⟨k7, H⟩ := H
      refine vx_iaload (z := 512) (q := 77) (by decide +kernel) (vx_Tk hT (vx_f6_2 ov0).2.1) (vx_Tz hT ⟨(vx_f6_2 ov0).2.1.1, (vx_f6_2 ov0).2.2⟩) (vx_ix k7 (by decide)) ?_
      refine vx_iconst (n := 1) (q := 78) (by decide +kernel) ?_
      refine vx_isub (q := 79) (by decide +kernel) ?_
      refine vx_aload_n (n := 0) (q := 80) (by decide +kernel) rfl ?_
      refine vx_getI (idx := 18) (kd := 6) (s := 0) (fin := true) (q := 83) (by decide +kernel) (vx_Tk hT ov0) ?_
      refine vx_imul (q := 84) (by decide +kernel) ?_
      refine vx_istore (n := 7) (q := 86) (lv' := [some (.ref v0), some (.ref v1), some (.int (vx_i v2)), some (.long (vx_l v3)), none, some (.int (vx_i v5)), some (.int (vx_i v6)), some (.int (vx_i (((vx_J h (vx_r v0 2) v5.toNat) - 1) * (vx_J h v0 0)))), v8]) (by decide +kernel) rfl ?_
      refine vx_iconst (n := 0) (q := 87) (by decide +kernel) ?_
      refine vx_istore (n := 8) (q := 89) (lv' := [some (.ref v0), some (.ref v1), some (.int (vx_i v2)), some (.long (vx_l v3)), none, some (.int (vx_i v5)), some (.int (vx_i v6)), some (.int (vx_i (((vx_J h (vx_r v0 2) v5.toNat) - 1) * (vx_J h v0 0)))), some (.int (vx_i 0))]) (by decide +kernel) rfl ?_
      exact H
theorem vg_176_89 {d : Nat} {h : ve_H} {P : Int → ve_H → Prop} {v0 : Nat} (ov0 : vx_o 1 625 6 v0) {v1 : Nat} (ov1 : vx_o 1 625 21 v1) {v2 : Int} {v3 : Int} {v5 : Int} {v6 : Int} {v7 : Int} {v8 : Int} (hT : vx_T 1 625 h) (H : (vx_rI v8) ∧ (((vx_J h v0 0) ≤ v8 → ((v8 ≠ (vx_J h v0 0) → vx_W d 176 52 [some (.ref v0), some (.ref v1), some (.int (vx_i v2)), some (.long (vx_l v3)), none, some (.int (vx_i (vx_and (v5 + 1) 511))), some (.int (vx_i (v6 + 1))), some (.int (vx_i v7)), some (.int (vx_i v8))] [] h (vx_RI P)) ∧ (v8 = (vx_J h v0 0) → (vx_rI v5) ∧ P v5 h))) ∧ (v8 < (vx_J h v0 0) → (0 ≤ (v7 + v8) ∧ (v7 + v8) < (vx_za (vx_r v0 1))) ∧ (0 ≤ (v2 + v8) ∧ (v2 + v8) < (vx_za v1)) ∧ (((vx_K h (vx_r v0 1) (v7 + v8).toNat) ≠ (vx_K h v1 (v2 + v8).toNat) → vx_W d 176 52 [some (.ref v0), some (.ref v1), some (.int (vx_i v2)), some (.long (vx_l v3)), none, some (.int (vx_i (vx_and (v5 + 1) 511))), some (.int (vx_i (v6 + 1))), some (.int (vx_i v7)), some (.int (vx_i v8))] [] h (vx_RI P)) ∧ ((vx_K h (vx_r v0 1) (v7 + v8).toNat) = (vx_K h v1 (v2 + v8).toNat) → vx_W d 176 89 [some (.ref v0), some (.ref v1), some (.int (vx_i v2)), some (.long (vx_l v3)), none, some (.int (vx_i v5)), some (.int (vx_i v6)), some (.int (vx_i v7)), some (.int (vx_i (v8 + 1)))] [] h (vx_RI P)))))) : vx_W d 176 89 [some (.ref v0), some (.ref v1), some (.int (vx_i v2)), some (.long (vx_l v3)), none, some (.int (vx_i v5)), some (.int (vx_i v6)), some (.int (vx_i v7)), some (.int (vx_i v8))] [] h (vx_RI P) := by
  refine vx_iload (n := 8) (q := 91) (by decide +kernel) rfl ?_
  refine vx_aload_n (n := 0) (q := 92) (by decide +kernel) rfl ?_
  refine vx_getI (idx := 18) (kd := 6) (s := 0) (fin := true) (q := 95) (by decide +kernel) (vx_Tk hT ov0) ?_
  obtain ⟨k1, H⟩ := H
  refine vx_icmp_ge (off := 29) (q := 98) (t := 124) (by decide +kernel) k1 (vx_rI_J h v0 0) (fun c2 => ?_) (fun c2 => ?_)
  · replace H := H.1 c2
    refine vx_iload (n := 8) (q := 126) (by decide +kernel) rfl ?_
    refine vx_aload_n (n := 0) (q := 127) (by decide +kernel) rfl ?_
    refine vx_getI (idx := 18) (kd := 6) (s := 0) (fin := true) (q := 130) (by decide +kernel) (vx_Tk hT ov0) ?_
    refine vx_icmp_ne (off := 6) (q := 133) (t := 136) (by decide +kernel) k1 (vx_rI_J h v0 0) (fun c3 => ?_) (fun c3 => ?_)
    · replace H := H.1 c3
      refine vx_iload (n := 5) (q := 138) (by decide +kernel) rfl ?_
      refine vx_iconst (n := 1) (q := 139) (by decide +kernel) ?_
      refine vx_iadd (q := 140) (by decide +kernel) ?_
      refine vx_sipush (n := 511) (q := 143) (by decide +kernel) ?_
      refine vx_iand (q := 144) (by decide +kernel) ?_
      refine vx_istore (n := 5) (q := 146) (lv' := [some (.ref v0), some (.ref v1), some (.int (vx_i v2)), some (.long (vx_l v3)), none, some (.int (vx_i (vx_and (v5 + 1) 511))), some (.int (vx_i v6)), some (.int (vx_i v7)), some (.int (vx_i v8))]) (by decide +kernel) rfl ?_
      refine vx_iinc (n := 6) (m := 1) (x := v6) (q := 149) (lv' := [some (.ref v0), some (.ref v1), some (.int (vx_i v2)), some (.long (vx_l v3)), none, some (.int (vx_i (vx_and (v5 + 1) 511))), some (.int (vx_i (v6 + 1))), some (.int (vx_i v7)), some (.int (vx_i v8))]) (by decide +kernel) rfl rfl ?_
      refine vx_goto (off := (-97)) (q := 152) (t := 52) (by decide +kernel) ?_
      exact H
    · replace H := H.2 c3
      refine vx_iload (n := 5) (q := 135) (by decide +kernel) rfl ?_
      obtain ⟨k4, H⟩ := H
      refine vx_retI (q := 136) (by decide +kernel) k4 ?_
      exact H
  · replace H := H.2 c2
    refine vx_aload_n (n := 0) (q := 99) (by decide +kernel) rfl ?_
    refine vx_getR (b := vx_r v0 1) (idx := 22) (kd := 6) (s := 1) (fin := true) (q := 102) (by decide +kernel) (vx_Tk hT ov0) (vx_Tr hT (kd := 6) ov0 (by decide +kernel) (vx_f6_1 ov0).1) ?_
    refine vx_iload (n := 7) (q := 104) (by decide +kernel) rfl ?_
    refine vx_iload (n := 8) (q := 106) (by decide +kernel) rfl ?_
    refine vx_iadd (q := 107) (by decide +kernel) ?_
    obtain ⟨k5, H⟩ := H
    refine vx_laload (z := (vx_za (vx_r v0 1))) (q := 108) (by decide +kernel) (vx_Tk hT (vx_f6_1 ov0).2) (vx_Tz hT ⟨(vx_f6_1 ov0).2.1, rfl⟩) (vx_ix k5 (vx_za_lt _)) ?_
    refine vx_aload_n (n := 1) (q := 109) (by decide +kernel) rfl ?_
    refine vx_iload_n (n := 2) (q := 110) (by decide +kernel) rfl ?_
    refine vx_iload (n := 8) (q := 112) (by decide +kernel) rfl ?_
    refine vx_iadd (q := 113) (by decide +kernel) ?_
    obtain ⟨k6, H⟩ := H
    refine vx_laload (z := (vx_za v1)) (q := 114) (by decide +kernel) (vx_Tk hT ov1) (vx_Tz hT ⟨ov1.1, rfl⟩) (vx_ix k6 (vx_za_lt _)) ?_
    refine vx_lc_ne (off := 9) (p := 115) (q := 118) (t := 124) (by decide +kernel) (vx_rL_K h (vx_r v0 1) (v7 + v8).toNat) (vx_rL_K h v1 (v2 + v8).toNat) (fun c7 => ?_) (fun c7 => ?_)
    · replace H := H.1 c7
      refine vx_iload (n := 8) (q := 126) (by decide +kernel) rfl ?_
      refine vx_aload_n (n := 0) (q := 127) (by decide +kernel) rfl ?_
      refine vx_getI (idx := 18) (kd := 6) (s := 0) (fin := true) (q := 130) (by decide +kernel) (vx_Tk hT ov0) ?_
      refine vx_icmp_ne (off := 6) (q := 133) (t := 136) (by decide +kernel) k1 (vx_rI_J h v0 0) (fun _ => ?_) (fun c => absurd c (by omega))
      refine vx_iload (n := 5) (q := 138) (by decide +kernel) rfl ?_
      refine vx_iconst (n := 1) (q := 139) (by decide +kernel) ?_
      refine vx_iadd (q := 140) (by decide +kernel) ?_
      refine vx_sipush (n := 511) (q := 143) (by decide +kernel) ?_
      refine vx_iand (q := 144) (by decide +kernel) ?_
      refine vx_istore (n := 5) (q := 146) (lv' := [some (.ref v0), some (.ref v1), some (.int (vx_i v2)), some (.long (vx_l v3)), none, some (.int (vx_i (vx_and (v5 + 1) 511))), some (.int (vx_i v6)), some (.int (vx_i v7)), some (.int (vx_i v8))]) (by decide +kernel) rfl ?_
      refine vx_iinc (n := 6) (m := 1) (x := v6) (q := 149) (lv' := [some (.ref v0), some (.ref v1), some (.int (vx_i v2)), some (.long (vx_l v3)), none, some (.int (vx_i (vx_and (v5 + 1) 511))), some (.int (vx_i (v6 + 1))), some (.int (vx_i v7)), some (.int (vx_i v8))]) (by decide +kernel) rfl rfl ?_
      refine vx_goto (off := (-97)) (q := 152) (t := 52) (by decide +kernel) ?_
      exact H
    · replace H := H.2 c7
      refine vx_iinc (n := 8) (m := 1) (x := v8) (q := 121) (lv' := [some (.ref v0), some (.ref v1), some (.int (vx_i v2)), some (.long (vx_l v3)), none, some (.int (vx_i v5)), some (.int (vx_i v6)), some (.int (vx_i v7)), some (.int (vx_i (v8 + 1)))]) (by decide +kernel) rfl rfl ?_
      refine vx_goto (off := (-32)) (q := 124) (t := 89) (by decide +kernel) ?_
      exact H
-- RuleHouse$Rows.countOf(I)I
theorem vg_177 {d : Nat} {h : ve_H} {P : Int → ve_H → Prop} {a0 : Nat} (o0 : vx_o 1 625 6 a0) {x1 : Int} (hT : vx_T 1 625 h) (H : vx_W d 177 4 [some (.ref a0), some (.int (vx_i x1)), some (.int (vx_i 0)), some (.int (vx_i 0))] [] h (vx_RI P)) : vx_CI d 177 [.ref a0, .int (vx_i x1)] h P := by
  refine vx_enter (ml := 4) (by decide +kernel) ?_
  show vx_W _ _ 0 [some (.ref a0), some (.int (vx_i x1)), none, none] [] h _
  refine vx_iconst (n := 0) (q := 1) (by decide +kernel) ?_
  refine vx_istore_n (n := 2) (q := 2) (lv' := [some (.ref a0), some (.int (vx_i x1)), some (.int (vx_i 0)), none]) (by decide +kernel) rfl ?_
  refine vx_iconst (n := 0) (q := 3) (by decide +kernel) ?_
  refine vx_istore_n (n := 3) (q := 4) (lv' := [some (.ref a0), some (.int (vx_i x1)), some (.int (vx_i 0)), some (.int (vx_i 0))]) (by decide +kernel) rfl ?_
  exact H
theorem vg_177_4 {d : Nat} {h : ve_H} {P : Int → ve_H → Prop} {v0 : Nat} (ov0 : vx_o 1 625 6 v0) {v1 : Int} {v2 : Int} {v3 : Int} (hT : vx_T 1 625 h) (H : (vx_rI v3) ∧ (((vx_J h v0 4) ≤ v3 → (vx_rI v2) ∧ P v2 h) ∧ (v3 < (vx_J h v0 4) → (0 ≤ (v3 * (vx_J h v0 0)) ∧ (v3 * (vx_J h v0 0)) < (vx_za (vx_r v0 1))) ∧ (vx_rI v1) ∧ (((vx_K h (vx_r v0 1) (v3 * (vx_J h v0 0)).toNat) ≠ v1 → vx_W d 177 4 [some (.ref v0), some (.int (vx_i v1)), some (.int (vx_i v2)), some (.int (vx_i (v3 + 1)))] [] h (vx_RI P)) ∧ ((vx_K h (vx_r v0 1) (v3 * (vx_J h v0 0)).toNat) = v1 → vx_W d 177 4 [some (.ref v0), some (.int (vx_i v1)), some (.int (vx_i (v2 + 1))), some (.int (vx_i (v3 + 1)))] [] h (vx_RI P)))))) : vx_W d 177 4 [some (.ref v0), some (.int (vx_i v1)), some (.int (vx_i v2)), some (.int (vx_i v3))] [] h (vx_RI P) := by
  refine vx_iload_n (n := 3) (q := 5) (by decide +kernel) rfl ?_
  refine vx_aload_n (n := 0) (q := 6) (by decide +kernel) rfl ?_
  refine vx_getI (idx := 26) (kd := 6) (s := 4) (fin := false) (q := 9) (by decide +kernel) (vx_Tk hT ov0) ?_
  obtain ⟨k1, H⟩ := H
  refine vx_icmp_ge (off := 29) (q := 12) (t := 38) (by decide +kernel) k1 (vx_rI_J h v0 4) (fun c2 => ?_) (fun c2 => ?_)
  · replace H := H.1 c2
    refine vx_iload_n (n := 2) (q := 39) (by decide +kernel) rfl ?_
    obtain ⟨k3, H⟩ := H
    refine vx_retI (q := 40) (by decide +kernel) k3 ?_
    exact H
  · replace H := H.2 c2
    refine vx_aload_n (n := 0) (q := 13) (by decide +kernel) rfl ?_
    refine vx_getR (b := vx_r v0 1) (idx := 22) (kd := 6) (s := 1) (fin := true) (q := 16) (by decide +kernel) (vx_Tk hT ov0) (vx_Tr hT (kd := 6) ov0 (by decide +kernel) (vx_f6_1 ov0).1) ?_
    refine vx_iload_n (n := 3) (q := 17) (by decide +kernel) rfl ?_
    refine vx_aload_n (n := 0) (q := 18) (by decide +kernel) rfl ?_
    refine vx_getI (idx := 18) (kd := 6) (s := 0) (fin := true) (q := 21) (by decide +kernel) (vx_Tk hT ov0) ?_
    refine vx_imul (q := 22) (by decide +kernel) ?_
    obtain ⟨k4, H⟩ := H
    refine vx_laload (z := (vx_za (vx_r v0 1))) (q := 23) (by decide +kernel) (vx_Tk hT (vx_f6_1 ov0).2) (vx_Tz hT ⟨(vx_f6_1 ov0).2.1, rfl⟩) (vx_ix k4 (vx_za_lt _)) ?_
    refine vx_iload_n (n := 1) (q := 24) (by decide +kernel) rfl ?_
    obtain ⟨k5, H⟩ := H
    refine vx_i2l (q := 25) (by decide +kernel) k5 ?_
    refine vx_lc_ne (off := 6) (p := 26) (q := 29) (t := 32) (by decide +kernel) (vx_rL_K h (vx_r v0 1) (v3 * (vx_J h v0 0)).toNat) (vx_IL k5) (fun c6 => ?_) (fun c6 => ?_)
    · replace H := H.1 c6
      refine vx_iinc (n := 3) (m := 1) (x := v3) (q := 35) (lv' := [some (.ref v0), some (.int (vx_i v1)), some (.int (vx_i v2)), some (.int (vx_i (v3 + 1)))]) (by decide +kernel) rfl rfl ?_
      refine vx_goto (off := (-31)) (q := 38) (t := 4) (by decide +kernel) ?_
      exact H
    · replace H := H.2 c6
      refine vx_iinc (n := 2) (m := 1) (x := v2) (q := 32) (lv' := [some (.ref v0), some (.int (vx_i v1)), some (.int (vx_i (v2 + 1))), some (.int (vx_i v3))]) (by decide +kernel) rfl rfl ?_
      refine vx_iinc (n := 3) (m := 1) (x := v3) (q := 35) (lv' := [some (.ref v0), some (.int (vx_i v1)), some (.int (vx_i (v2 + 1))), some (.int (vx_i (v3 + 1)))]) (by decide +kernel) rfl rfl ?_
      refine vx_goto (off := (-31)) (q := 38) (t := 4) (by decide +kernel) ?_
      exact H
-- RuleHouse$Rows.sort()V
theorem vg_178 {d : Nat} {h : ve_H} {P : ve_H → Prop} {a0 : Nat} (o0 : vx_o 1 625 6 a0) (hT : vx_T 1 625 h) (H : vx_W (d + 1) 178 2 [some (.ref a0), some (.int (vx_i 1)), none, none] [] h (vx_RV P)) : vx_CV (d + 1) 178 [.ref a0] h P := by
  refine vx_enter (ml := 4) (by decide +kernel) ?_
  show vx_W _ _ 0 [some (.ref a0), none, none, none] [] h _
  refine vx_iconst (n := 1) (q := 1) (by decide +kernel) ?_
  refine vx_istore_n (n := 1) (q := 2) (lv' := [some (.ref a0), some (.int (vx_i 1)), none, none]) (by decide +kernel) rfl ?_
  exact H
theorem vg_178_2 {d : Nat} {h : ve_H} {P : ve_H → Prop} {v0 : Nat} (ov0 : vx_o 1 625 6 v0) {v1 : Int} {v2 : Option Value} {v3 : Option Value} (hT : vx_T 1 625 h) (H : (vx_rI v1) ∧ (((vx_J h v0 4) ≤ v1 → P h) ∧ (v1 < (vx_J h v0 4) → (0 ≤ v1 ∧ v1 < 201) ∧ vx_W (d + 1) 178 19 [some (.ref v0), some (.int (vx_i v1)), some (.int (vx_i (vx_J h (vx_r v0 3) v1.toNat))), some (.int (vx_i v1))] [] h (vx_RV P)))) : vx_W (d + 1) 178 2 [some (.ref v0), some (.int (vx_i v1)), v2, v3] [] h (vx_RV P) := by
  refine vx_iload_n (n := 1) (q := 3) (by decide +kernel) rfl ?_
  refine vx_aload_n (n := 0) (q := 4) (by decide +kernel) rfl ?_
  refine vx_getI (idx := 26) (kd := 6) (s := 4) (fin := false) (q := 7) (by decide +kernel) (vx_Tk hT ov0) ?_
  obtain ⟨k1, H⟩ := H
  refine vx_icmp_ge (off := 65) (q := 10) (t := 72) (by decide +kernel) k1 (vx_rI_J h v0 4) (fun c2 => ?_) (fun c2 => ?_)
  · replace H := H.1 c2
    refine vx_retV (q := 73) (by decide +kernel) ?_
    exact H
  · replace H := H.2 c2
    refine vx_aload_n (n := 0) (q := 11) (by decide +kernel) rfl ?_
    refine vx_getR (b := vx_r v0 3) (idx := 15) (kd := 6) (s := 3) (fin := true) (q := 14) (by decide +kernel) (vx_Tk hT ov0) (vx_Tr hT (kd := 6) ov0 (by decide +kernel) (vx_f6_3 ov0).1) ?_
    refine vx_iload_n (n := 1) (q := 15) (by decide +kernel) rfl ?_
    obtain ⟨k3, H⟩ := H
    refine vx_iaload (z := 201) (q := 16) (by decide +kernel) (vx_Tk hT (vx_f6_3 ov0).2.1) (vx_Tz hT ⟨(vx_f6_3 ov0).2.1.1, (vx_f6_3 ov0).2.2⟩) (vx_ix k3 (by decide)) ?_
    refine vx_istore_n (n := 2) (q := 17) (lv' := [some (.ref v0), some (.int (vx_i v1)), some (.int (vx_i (vx_J h (vx_r v0 3) v1.toNat))), v3]) (by decide +kernel) rfl ?_
    refine vx_iload_n (n := 1) (q := 18) (by decide +kernel) rfl ?_
    refine vx_istore_n (n := 3) (q := 19) (lv' := [some (.ref v0), some (.int (vx_i v1)), some (.int (vx_i (vx_J h (vx_r v0 3) v1.toNat))), some (.int (vx_i v1))]) (by decide +kernel) rfl ?_
    exact H
theorem vg_178_19 {d : Nat} {h : ve_H} {P : ve_H → Prop} {v0 : Nat} (ov0 : vx_o 1 625 6 v0) {v1 : Int} {v2 : Int} {v3 : Int} (hT : vx_T 1 625 h) (H : (vx_rI v3) ∧ ((v3 ≤ 0 → (0 ≤ v3 ∧ v3 < 201) ∧ (∀ h4, h4 = vx_sJ h (vx_r v0 3) v3.toNat v2 → vx_T 1 625 h4 → vx_W (d + 1) 178 2 [some (.ref v0), some (.int (vx_i (v1 + 1))), some (.int (vx_i v2)), some (.int (vx_i v3))] [] h4 (vx_RV P))) ∧ (0 < v3 → (0 ≤ (v3 - 1) ∧ (v3 - 1) < 201) ∧ vx_CI d 179 [.ref v0, .int (vx_i v2), .int (vx_i (vx_J h (vx_r v0 3) (v3 - 1).toNat))] h (fun r6 h6 => vx_T 1 625 h6 → ((r6 = 0 → (0 ≤ v3 ∧ v3 < 201) ∧ (∀ h9, h9 = vx_sJ h6 (vx_r v0 3) v3.toNat v2 → vx_T 1 625 h9 → vx_W (d + 1) 178 2 [some (.ref v0), some (.int (vx_i (v1 + 1))), some (.int (vx_i v2)), some (.int (vx_i v3))] [] h9 (vx_RV P))) ∧ (r6 ≠ 0 → (0 ≤ (v3 - 1) ∧ (v3 - 1) < 201) ∧ (0 ≤ v3 ∧ v3 < 201) ∧ (∀ h12, h12 = vx_sJ h6 (vx_r v0 3) v3.toNat (vx_J h6 (vx_r v0 3) (v3 - 1).toNat) → vx_T 1 625 h12 → vx_W (d + 1) 178 19 [some (.ref v0), some (.int (vx_i v1)), some (.int (vx_i v2)), some (.int (vx_i (v3 + (-1))))] [] h12 (vx_RV P)))))))) : vx_W (d + 1) 178 19 [some (.ref v0), some (.int (vx_i v1)), some (.int (vx_i v2)), some (.int (vx_i v3))] [] h (vx_RV P) := by
  refine vx_iload_n (n := 3) (q := 20) (by decide +kernel) rfl ?_
  obtain ⟨k1, H⟩ := H
  refine vx_if0_le (off := 39) (q := 23) (t := 59) (by decide +kernel) k1 (fun c2 => ?_) (fun c2 => ?_)
  · replace H := H.1 c2
    refine vx_aload_n (n := 0) (q := 60) (by decide +kernel) rfl ?_
    refine vx_getR (b := vx_r v0 3) (idx := 15) (kd := 6) (s := 3) (fin := true) (q := 63) (by decide +kernel) (vx_Tk hT ov0) (vx_Tr hT (kd := 6) ov0 (by decide +kernel) (vx_f6_3 ov0).1) ?_
    refine vx_iload_n (n := 3) (q := 64) (by decide +kernel) rfl ?_
    refine vx_iload_n (n := 2) (q := 65) (by decide +kernel) rfl ?_
    obtain ⟨k3, H⟩ := H
    refine vx_iastore (z := 201) (q := 66) (by decide +kernel) (vx_Tk hT (vx_f6_3 ov0).2.1) (vx_Tz hT ⟨(vx_f6_3 ov0).2.1.1, (vx_f6_3 ov0).2.2⟩) (vx_ix k3 (by decide)) (fun h4 e4 => ?_)
    have hT4 := vx_TJ hT e4
    replace H := H h4 e4 hT4
    refine vx_iinc (n := 1) (m := 1) (x := v1) (q := 69) (lv' := [some (.ref v0), some (.int (vx_i (v1 + 1))), some (.int (vx_i v2)), some (.int (vx_i v3))]) (by decide +kernel) rfl rfl ?_
    refine vx_goto (off := (-67)) (q := 72) (t := 2) (by decide +kernel) ?_
    exact H
  · replace H := H.2 c2
    refine vx_aload_n (n := 0) (q := 24) (by decide +kernel) rfl ?_
    refine vx_iload_n (n := 2) (q := 25) (by decide +kernel) rfl ?_
    refine vx_aload_n (n := 0) (q := 26) (by decide +kernel) rfl ?_
    refine vx_getR (b := vx_r v0 3) (idx := 15) (kd := 6) (s := 3) (fin := true) (q := 29) (by decide +kernel) (vx_Tk hT ov0) (vx_Tr hT (kd := 6) ov0 (by decide +kernel) (vx_f6_3 ov0).1) ?_
    refine vx_iload_n (n := 3) (q := 30) (by decide +kernel) rfl ?_
    refine vx_iconst (n := 1) (q := 31) (by decide +kernel) ?_
    refine vx_isub (q := 32) (by decide +kernel) ?_
    obtain ⟨k5, H⟩ := H
    refine vx_iaload (z := 201) (q := 33) (by decide +kernel) (vx_Tk hT (vx_f6_3 ov0).2.1) (vx_Tz hT ⟨(vx_f6_3 ov0).2.1.1, (vx_f6_3 ov0).2.2⟩) (vx_ix k5 (by decide)) ?_
    refine vx_callI (i := .invokevirtual 47) (how := 3) (cm := 179) (np := 3) (q := 36) (args := [.ref v0, .int (vx_i v2), .int (vx_i (vx_J h (vx_r v0 3) (v3 - 1).toNat))]) (rest := []) (by decide +kernel) rfl rfl rfl (vx_w2 (w := 3) (ml := 4) rfl (by decide +kernel)) (vx_rcv (kd := 6) (vx_Tk hT ov0) (by decide +kernel)) H (fun r6 h6 hr6 hs6 H => ?_)
    have hT6 := vx_Tsh hT hs6
    replace H := H hT6
    refine vx_if0_eq (off := 23) (q := 39) (t := 59) (by decide +kernel) hr6 (fun c7 => ?_) (fun c7 => ?_)
    · replace H := H.1 c7
      refine vx_aload_n (n := 0) (q := 60) (by decide +kernel) rfl ?_
      refine vx_getR (b := vx_r v0 3) (idx := 15) (kd := 6) (s := 3) (fin := true) (q := 63) (by decide +kernel) (vx_Tk hT6 ov0) (vx_Tr hT6 (kd := 6) ov0 (by decide +kernel) (vx_f6_3 ov0).1) ?_
      refine vx_iload_n (n := 3) (q := 64) (by decide +kernel) rfl ?_
      refine vx_iload_n (n := 2) (q := 65) (by decide +kernel) rfl ?_
      obtain ⟨k8, H⟩ := H
      refine vx_iastore (z := 201) (q := 66) (by decide +kernel) (vx_Tk hT6 (vx_f6_3 ov0).2.1) (vx_Tz hT6 ⟨(vx_f6_3 ov0).2.1.1, (vx_f6_3 ov0).2.2⟩) (vx_ix k8 (by decide)) (fun h9 e9 => ?_)
      have hT9 := vx_TJ hT6 e9
      replace H := H h9 e9 hT9
      refine vx_iinc (n := 1) (m := 1) (x := v1) (q := 69) (lv' := [some (.ref v0), some (.int (vx_i (v1 + 1))), some (.int (vx_i v2)), some (.int (vx_i v3))]) (by decide +kernel) rfl rfl ?_
      refine vx_goto (off := (-67)) (q := 72) (t := 2) (by decide +kernel) ?_
      exact H
    · replace H := H.2 c7
      refine vx_aload_n (n := 0) (q := 40) (by decide +kernel) rfl ?_
      refine vx_getR (b := vx_r v0 3) (idx := 15) (kd := 6) (s := 3) (fin := true) (q := 43) (by decide +kernel) (vx_Tk hT6 ov0) (vx_Tr hT6 (kd := 6) ov0 (by decide +kernel) (vx_f6_3 ov0).1) ?_
      refine vx_iload_n (n := 3) (q := 44) (by decide +kernel) rfl ?_
      refine vx_aload_n (n := 0) (q := 45) (by decide +kernel) rfl ?_
      refine vx_getR (b := vx_r v0 3) (idx := 15) (kd := 6) (s := 3) (fin := true) (q := 48) (by decide +kernel) (vx_Tk hT6 ov0) (vx_Tr hT6 (kd := 6) ov0 (by decide +kernel) (vx_f6_3 ov0).1) ?_
      refine vx_iload_n (n := 3) (q := 49) (by decide +kernel) rfl ?_
      refine vx_iconst (n := 1) (q := 50) (by decide +kernel) ?_
      refine vx_isub (q := 51) (by decide +kernel) ?_
      obtain ⟨k10, H⟩ := H
      refine vx_iaload (z := 201) (q := 52) (by decide +kernel) (vx_Tk hT6 (vx_f6_3 ov0).2.1) (vx_Tz hT6 ⟨(vx_f6_3 ov0).2.1.1, (vx_f6_3 ov0).2.2⟩) (vx_ix k10 (by decide)) ?_
      obtain ⟨k11, H⟩ := H
      refine vx_iastore (z := 201) (q := 53) (by decide +kernel) (vx_Tk hT6 (vx_f6_3 ov0).2.1) (vx_Tz hT6 ⟨(vx_f6_3 ov0).2.1.1, (vx_f6_3 ov0).2.2⟩) (vx_ix k11 (by decide)) (fun h12 e12 => ?_)
      have hT12 := vx_TJ hT6 e12
      replace H := H h12 e12 hT12
      refine vx_iinc (n := 3) (m := (-1)) (x := v3) (q := 56) (lv' := [some (.ref v0), some (.int (vx_i v1)), some (.int (vx_i v2)), some (.int (vx_i (v3 + (-1))))]) (by decide +kernel) rfl rfl ?_
      refine vx_goto (off := (-37)) (q := 59) (t := 19) (by decide +kernel) ?_
      exact H
-- RuleHouse$Rows.isAhead(II)Z
theorem vg_179 {d : Nat} {h : ve_H} {P : Int → ve_H → Prop} {a0 : Nat} (o0 : vx_o 1 625 6 a0) {x1 : Int} {x2 : Int} (hT : vx_T 1 625 h) (H : vx_W d 179 2 [some (.ref a0), some (.int (vx_i x1)), some (.int (vx_i x2)), some (.int (vx_i 0))] [] h (vx_RI P)) : vx_CI d 179 [.ref a0, .int (vx_i x1), .int (vx_i x2)] h P := by
  refine vx_enter (ml := 4) (by decide +kernel) ?_
  show vx_W _ _ 0 [some (.ref a0), some (.int (vx_i x1)), some (.int (vx_i x2)), none] [] h _
  refine vx_iconst (n := 0) (q := 1) (by decide +kernel) ?_
  refine vx_istore_n (n := 3) (q := 2) (lv' := [some (.ref a0), some (.int (vx_i x1)), some (.int (vx_i x2)), some (.int (vx_i 0))]) (by decide +kernel) rfl ?_
  exact H
theorem vg_179_2 {d : Nat} {h : ve_H} {P : Int → ve_H → Prop} {v0 : Nat} (ov0 : vx_o 1 625 6 v0) {v1 : Int} {v2 : Int} {v3 : Int} (hT : vx_T 1 625 h) (H : (vx_rI v3) ∧ (vx_rI ((vx_J h v0 0) - 1)) ∧ ((((vx_J h v0 0) - 1) ≤ v3 → (0 ≤ ((v1 * (vx_J h v0 0)) + v3) ∧ ((v1 * (vx_J h v0 0)) + v3) < (vx_za (vx_r v0 1))) ∧ (0 ≤ ((v2 * (vx_J h v0 0)) + v3) ∧ ((v2 * (vx_J h v0 0)) + v3) < (vx_za (vx_r v0 1))) ∧ (((vx_K h (vx_r v0 1) ((v2 * (vx_J h v0 0)) + v3).toNat) ≤ (vx_K h (vx_r v0 1) ((v1 * (vx_J h v0 0)) + v3).toNat) → P 0 h) ∧ ((vx_K h (vx_r v0 1) ((v1 * (vx_J h v0 0)) + v3).toNat) < (vx_K h (vx_r v0 1) ((v2 * (vx_J h v0 0)) + v3).toNat) → P 1 h))) ∧ (v3 < ((vx_J h v0 0) - 1) → (0 ≤ ((v1 * (vx_J h v0 0)) + v3) ∧ ((v1 * (vx_J h v0 0)) + v3) < (vx_za (vx_r v0 1))) ∧ (0 ≤ ((v2 * (vx_J h v0 0)) + v3) ∧ ((v2 * (vx_J h v0 0)) + v3) < (vx_za (vx_r v0 1))) ∧ (((vx_K h (vx_r v0 1) ((v1 * (vx_J h v0 0)) + v3).toNat) ≠ (vx_K h (vx_r v0 1) ((v2 * (vx_J h v0 0)) + v3).toNat) → (0 ≤ ((v1 * (vx_J h v0 0)) + v3) ∧ ((v1 * (vx_J h v0 0)) + v3) < (vx_za (vx_r v0 1))) ∧ (0 ≤ ((v2 * (vx_J h v0 0)) + v3) ∧ ((v2 * (vx_J h v0 0)) + v3) < (vx_za (vx_r v0 1))) ∧ (((vx_K h (vx_r v0 1) ((v2 * (vx_J h v0 0)) + v3).toNat) ≤ (vx_K h (vx_r v0 1) ((v1 * (vx_J h v0 0)) + v3).toNat) → P 0 h) ∧ ((vx_K h (vx_r v0 1) ((v1 * (vx_J h v0 0)) + v3).toNat) < (vx_K h (vx_r v0 1) ((v2 * (vx_J h v0 0)) + v3).toNat) → P 1 h))) ∧ ((vx_K h (vx_r v0 1) ((v1 * (vx_J h v0 0)) + v3).toNat) = (vx_K h (vx_r v0 1) ((v2 * (vx_J h v0 0)) + v3).toNat) → vx_W d 179 2 [some (.ref v0), some (.int (vx_i v1)), some (.int (vx_i v2)), some (.int (vx_i (v3 + 1)))] [] h (vx_RI P)))))) : vx_W d 179 2 [some (.ref v0), some (.int (vx_i v1)), some (.int (vx_i v2)), some (.int (vx_i v3))] [] h (vx_RI P) := by
  refine vx_iload_n (n := 3) (q := 3) (by decide +kernel) rfl ?_
  refine vx_aload_n (n := 0) (q := 4) (by decide +kernel) rfl ?_
  refine vx_getI (idx := 18) (kd := 6) (s := 0) (fin := true) (q := 7) (by decide +kernel) (vx_Tk hT ov0) ?_
  refine vx_iconst (n := 1) (q := 8) (by decide +kernel) ?_
  refine vx_isub (q := 9) (by decide +kernel) ?_
  obtain ⟨k1, H⟩ := H
  obtain ⟨k2, H⟩ := H
  refine vx_icmp_ge (off := 39) (q := 12) (t := 48) (by decide +kernel) k1 k2 (fun c3 => ?_) (fun c3 => ?_)
  · replace H := H.1 c3
    refine vx_aload_n (n := 0) (q := 49) (by decide +kernel) rfl ?_
    refine vx_getR (b := vx_r v0 1) (idx := 22) (kd := 6) (s := 1) (fin := true) (q := 52) (by decide +kernel) (vx_Tk hT ov0) (vx_Tr hT (kd := 6) ov0 (by decide +kernel) (vx_f6_1 ov0).1) ?_
    refine vx_iload_n (n := 1) (q := 53) (by decide +kernel) rfl ?_
    refine vx_aload_n (n := 0) (q := 54) (by decide +kernel) rfl ?_
    refine vx_getI (idx := 18) (kd := 6) (s := 0) (fin := true) (q := 57) (by decide +kernel) (vx_Tk hT ov0) ?_
    refine vx_imul (q := 58) (by decide +kernel) ?_
    refine vx_iload_n (n := 3) (q := 59) (by decide +kernel) rfl ?_
    refine vx_iadd (q := 60) (by decide +kernel) ?_
    obtain ⟨k4, H⟩ := H
    refine vx_laload (z := (vx_za (vx_r v0 1))) (q := 61) (by decide +kernel) (vx_Tk hT (vx_f6_1 ov0).2) (vx_Tz hT ⟨(vx_f6_1 ov0).2.1, rfl⟩) (vx_ix k4 (vx_za_lt _)) ?_
    refine vx_aload_n (n := 0) (q := 62) (by decide +kernel) rfl ?_
    refine vx_getR (b := vx_r v0 1) (idx := 22) (kd := 6) (s := 1) (fin := true) (q := 65) (by decide +kernel) (vx_Tk hT ov0) (vx_Tr hT (kd := 6) ov0 (by decide +kernel) (vx_f6_1 ov0).1) ?_
    refine vx_iload_n (n := 2) (q := 66) (by decide +kernel) rfl ?_
    refine vx_aload_n (n := 0) (q := 67) (by decide +kernel) rfl ?_
    refine vx_getI (idx := 18) (kd := 6) (s := 0) (fin := true) (q := 70) (by decide +kernel) (vx_Tk hT ov0) ?_
    refine vx_imul (q := 71) (by decide +kernel) ?_
    refine vx_iload_n (n := 3) (q := 72) (by decide +kernel) rfl ?_
    refine vx_iadd (q := 73) (by decide +kernel) ?_
    obtain ⟨k5, H⟩ := H
    refine vx_laload (z := (vx_za (vx_r v0 1))) (q := 74) (by decide +kernel) (vx_Tk hT (vx_f6_1 ov0).2) (vx_Tz hT ⟨(vx_f6_1 ov0).2.1, rfl⟩) (vx_ix k5 (vx_za_lt _)) ?_
    refine vx_lc_ge (off := 7) (p := 75) (q := 78) (t := 82) (by decide +kernel) (vx_rL_K h (vx_r v0 1) ((v1 * (vx_J h v0 0)) + v3).toNat) (vx_rL_K h (vx_r v0 1) ((v2 * (vx_J h v0 0)) + v3).toNat) (fun c6 => ?_) (fun c6 => ?_)
    · replace H := H.1 c6
      refine vx_iconst (n := 0) (q := 83) (by decide +kernel) ?_
      refine vx_retZ (q := 84) (by decide +kernel) (Or.inl rfl) ?_
      exact H
    · replace H := H.2 c6
      refine vx_iconst (n := 1) (q := 79) (by decide +kernel) ?_
      refine vx_goto (off := 4) (q := 82) (t := 83) (by decide +kernel) ?_
      refine vx_retZ (q := 84) (by decide +kernel) (Or.inr rfl) ?_
      exact H
  · replace H := H.2 c3
    refine vx_aload_n (n := 0) (q := 13) (by decide +kernel) rfl ?_
    refine vx_getR (b := vx_r v0 1) (idx := 22) (kd := 6) (s := 1) (fin := true) (q := 16) (by decide +kernel) (vx_Tk hT ov0) (vx_Tr hT (kd := 6) ov0 (by decide +kernel) (vx_f6_1 ov0).1) ?_
    refine vx_iload_n (n := 1) (q := 17) (by decide +kernel) rfl ?_
    refine vx_aload_n (n := 0) (q := 18) (by decide +kernel) rfl ?_
    refine vx_getI (idx := 18) (kd := 6) (s := 0) (fin := true) (q := 21) (by decide +kernel) (vx_Tk hT ov0) ?_
    refine vx_imul (q := 22) (by decide +kernel) ?_
    refine vx_iload_n (n := 3) (q := 23) (by decide +kernel) rfl ?_
    refine vx_iadd (q := 24) (by decide +kernel) ?_
    obtain ⟨k7, H⟩ := H
    refine vx_laload (z := (vx_za (vx_r v0 1))) (q := 25) (by decide +kernel) (vx_Tk hT (vx_f6_1 ov0).2) (vx_Tz hT ⟨(vx_f6_1 ov0).2.1, rfl⟩) (vx_ix k7 (vx_za_lt _)) ?_
    refine vx_aload_n (n := 0) (q := 26) (by decide +kernel) rfl ?_
    refine vx_getR (b := vx_r v0 1) (idx := 22) (kd := 6) (s := 1) (fin := true) (q := 29) (by decide +kernel) (vx_Tk hT ov0) (vx_Tr hT (kd := 6) ov0 (by decide +kernel) (vx_f6_1 ov0).1) ?_
    refine vx_iload_n (n := 2) (q := 30) (by decide +kernel) rfl ?_
    refine vx_aload_n (n := 0) (q := 31) (by decide +kernel) rfl ?_
    refine vx_getI (idx := 18) (kd := 6) (s := 0) (fin := true) (q := 34) (by decide +kernel) (vx_Tk hT ov0) ?_
    refine vx_imul (q := 35) (by decide +kernel) ?_
    refine vx_iload_n (n := 3) (q := 36) (by decide +kernel) rfl ?_
    refine vx_iadd (q := 37) (by decide +kernel) ?_
    obtain ⟨k8, H⟩ := H
    refine vx_laload (z := (vx_za (vx_r v0 1))) (q := 38) (by decide +kernel) (vx_Tk hT (vx_f6_1 ov0).2) (vx_Tz hT ⟨(vx_f6_1 ov0).2.1, rfl⟩) (vx_ix k8 (vx_za_lt _)) ?_
    refine vx_lc_ne (off := 9) (p := 39) (q := 42) (t := 48) (by decide +kernel) (vx_rL_K h (vx_r v0 1) ((v1 * (vx_J h v0 0)) + v3).toNat) (vx_rL_K h (vx_r v0 1) ((v2 * (vx_J h v0 0)) + v3).toNat) (fun c9 => ?_) (fun c9 => ?_)
    · replace H := H.1 c9
      refine vx_aload_n (n := 0) (q := 49) (by decide +kernel) rfl ?_
      refine vx_getR (b := vx_r v0 1) (idx := 22) (kd := 6) (s := 1) (fin := true) (q := 52) (by decide +kernel) (vx_Tk hT ov0) (vx_Tr hT (kd := 6) ov0 (by decide +kernel) (vx_f6_1 ov0).1) ?_
      refine vx_iload_n (n := 1) (q := 53) (by decide +kernel) rfl ?_
      refine vx_aload_n (n := 0) (q := 54) (by decide +kernel) rfl ?_
      refine vx_getI (idx := 18) (kd := 6) (s := 0) (fin := true) (q := 57) (by decide +kernel) (vx_Tk hT ov0) ?_
      refine vx_imul (q := 58) (by decide +kernel) ?_
      refine vx_iload_n (n := 3) (q := 59) (by decide +kernel) rfl ?_
      refine vx_iadd (q := 60) (by decide +kernel) ?_
      obtain ⟨k10, H⟩ := H
      refine vx_laload (z := (vx_za (vx_r v0 1))) (q := 61) (by decide +kernel) (vx_Tk hT (vx_f6_1 ov0).2) (vx_Tz hT ⟨(vx_f6_1 ov0).2.1, rfl⟩) (vx_ix k10 (vx_za_lt _)) ?_
      refine vx_aload_n (n := 0) (q := 62) (by decide +kernel) rfl ?_
      refine vx_getR (b := vx_r v0 1) (idx := 22) (kd := 6) (s := 1) (fin := true) (q := 65) (by decide +kernel) (vx_Tk hT ov0) (vx_Tr hT (kd := 6) ov0 (by decide +kernel) (vx_f6_1 ov0).1) ?_
      refine vx_iload_n (n := 2) (q := 66) (by decide +kernel) rfl ?_
      refine vx_aload_n (n := 0) (q := 67) (by decide +kernel) rfl ?_
      refine vx_getI (idx := 18) (kd := 6) (s := 0) (fin := true) (q := 70) (by decide +kernel) (vx_Tk hT ov0) ?_
      refine vx_imul (q := 71) (by decide +kernel) ?_
      refine vx_iload_n (n := 3) (q := 72) (by decide +kernel) rfl ?_
      refine vx_iadd (q := 73) (by decide +kernel) ?_
      obtain ⟨k11, H⟩ := H
      refine vx_laload (z := (vx_za (vx_r v0 1))) (q := 74) (by decide +kernel) (vx_Tk hT (vx_f6_1 ov0).2) (vx_Tz hT ⟨(vx_f6_1 ov0).2.1, rfl⟩) (vx_ix k11 (vx_za_lt _)) ?_
      refine vx_lc_ge (off := 7) (p := 75) (q := 78) (t := 82) (by decide +kernel) (vx_rL_K h (vx_r v0 1) ((v1 * (vx_J h v0 0)) + v3).toNat) (vx_rL_K h (vx_r v0 1) ((v2 * (vx_J h v0 0)) + v3).toNat) (fun c12 => ?_) (fun c12 => ?_)
      · replace H := H.1 c12
        refine vx_iconst (n := 0) (q := 83) (by decide +kernel) ?_
        refine vx_retZ (q := 84) (by decide +kernel) (Or.inl rfl) ?_
        exact H
      · replace H := H.2 c12
        refine vx_iconst (n := 1) (q := 79) (by decide +kernel) ?_
        refine vx_goto (off := 4) (q := 82) (t := 83) (by decide +kernel) ?_
        refine vx_retZ (q := 84) (by decide +kernel) (Or.inr rfl) ?_
        exact H
    · replace H := H.2 c9
      refine vx_iinc (n := 3) (m := 1) (x := v3) (q := 45) (lv' := [some (.ref v0), some (.int (vx_i v1)), some (.int (vx_i v2)), some (.int (vx_i (v3 + 1)))]) (by decide +kernel) rfl rfl ?_
      refine vx_goto (off := (-43)) (q := 48) (t := 2) (by decide +kernel) ?_
      exact H
-- RuleHouse$Rows.inOrder(II)J
theorem vg_180 {d : Nat} {h : ve_H} {P : Int → ve_H → Prop} {a0 : Nat} (o0 : vx_o 1 625 6 a0) {x1 : Int} {x2 : Int} (hT : vx_T 1 625 h) (H : (0 ≤ x1 ∧ x1 < 201) ∧ (0 ≤ (((vx_J h (vx_r a0 3) x1.toNat) * (vx_J h a0 0)) + x2) ∧ (((vx_J h (vx_r a0 3) x1.toNat) * (vx_J h a0 0)) + x2) < (vx_za (vx_r a0 1))) ∧ P (vx_K h (vx_r a0 1) (((vx_J h (vx_r a0 3) x1.toNat) * (vx_J h a0 0)) + x2).toNat) h) : vx_CL d 180 [.ref a0, .int (vx_i x1), .int (vx_i x2)] h P := by
  refine vx_enter (ml := 3) (by decide +kernel) ?_
  show vx_W _ _ 0 [some (.ref a0), some (.int (vx_i x1)), some (.int (vx_i x2))] [] h _
  refine vx_aload_n (n := 0) (q := 1) (by decide +kernel) rfl ?_
  refine vx_getR (b := vx_r a0 1) (idx := 22) (kd := 6) (s := 1) (fin := true) (q := 4) (by decide +kernel) (vx_Tk hT o0) (vx_Tr hT (kd := 6) o0 (by decide +kernel) (vx_f6_1 o0).1) ?_
  refine vx_aload_n (n := 0) (q := 5) (by decide +kernel) rfl ?_
  refine vx_getR (b := vx_r a0 3) (idx := 15) (kd := 6) (s := 3) (fin := true) (q := 8) (by decide +kernel) (vx_Tk hT o0) (vx_Tr hT (kd := 6) o0 (by decide +kernel) (vx_f6_3 o0).1) ?_
  refine vx_iload_n (n := 1) (q := 9) (by decide +kernel) rfl ?_
  obtain ⟨k1, H⟩ := H
  refine vx_iaload (z := 201) (q := 10) (by decide +kernel) (vx_Tk hT (vx_f6_3 o0).2.1) (vx_Tz hT ⟨(vx_f6_3 o0).2.1.1, (vx_f6_3 o0).2.2⟩) (vx_ix k1 (by decide)) ?_
  refine vx_aload_n (n := 0) (q := 11) (by decide +kernel) rfl ?_
  refine vx_getI (idx := 18) (kd := 6) (s := 0) (fin := true) (q := 14) (by decide +kernel) (vx_Tk hT o0) ?_
  refine vx_imul (q := 15) (by decide +kernel) ?_
  refine vx_iload_n (n := 2) (q := 16) (by decide +kernel) rfl ?_
  refine vx_iadd (q := 17) (by decide +kernel) ?_
  obtain ⟨k2, H⟩ := H
  refine vx_laload (z := (vx_za (vx_r a0 1))) (q := 18) (by decide +kernel) (vx_Tk hT (vx_f6_1 o0).2) (vx_Tz hT ⟨(vx_f6_1 o0).2.1, rfl⟩) (vx_ix k2 (vx_za_lt _)) ?_
  refine vx_retL (q := 19) (by decide +kernel) (vx_rL_K h (vx_r a0 1) (((vx_J h (vx_r a0 3) x1.toNat) * (vx_J h a0 0)) + x2).toNat) ?_
  exact H
-- java/util/Arrays.fill([II)V
theorem vg_217 {d : Nat} {h : ve_H} {P : ve_H → Prop} {a1 : Nat} (o1 : vx_o 1 625 20 a1) {x2 : Int} (hT : vx_T 1 625 h) (H : vx_W d 217 5 [some (.ref a1), some (.int (vx_i x2)), some (.int (vx_i 0)), some (.int (vx_i (((vx_za a1) : Nat))))] [] h (vx_RV P)) : vx_CV d 217 [.ref a1, .int (vx_i x2)] h P := by
  refine vx_enter (ml := 4) (by decide +kernel) ?_
  show vx_W _ _ 0 [some (.ref a1), some (.int (vx_i x2)), none, none] [] h _
  refine vx_iconst (n := 0) (q := 1) (by decide +kernel) ?_
  refine vx_istore_n (n := 2) (q := 2) (lv' := [some (.ref a1), some (.int (vx_i x2)), some (.int (vx_i 0)), none]) (by decide +kernel) rfl ?_
  refine vx_aload_n (n := 0) (q := 3) (by decide +kernel) rfl ?_
  refine vx_alen (q := 4) (by decide +kernel) (by rw [(vx_Tk hT (kd := 20) o1)]; decide) ?_
  rw [(vx_Tz hT ⟨o1.1, rfl⟩)]
  refine vx_istore_n (n := 3) (q := 5) (lv' := [some (.ref a1), some (.int (vx_i x2)), some (.int (vx_i 0)), some (.int (vx_i (((vx_za a1) : Nat))))]) (by decide +kernel) rfl ?_
  exact H
theorem vg_217_5 {d : Nat} {h : ve_H} {P : ve_H → Prop} {v0 : Nat} (ov0 : vx_o 1 625 20 v0) {v1 : Int} {v2 : Int} {v3 : Int} (hT : vx_T 1 625 h) (H : (vx_rI v2) ∧ (vx_rI v3) ∧ ((v3 ≤ v2 → P h) ∧ (v2 < v3 → (0 ≤ v2 ∧ v2 < (vx_za v0)) ∧ (∀ h5, h5 = vx_sJ h v0 v2.toNat v1 → vx_T 1 625 h5 → vx_W d 217 5 [some (.ref v0), some (.int (vx_i v1)), some (.int (vx_i (v2 + 1))), some (.int (vx_i v3))] [] h5 (vx_RV P))))) : vx_W d 217 5 [some (.ref v0), some (.int (vx_i v1)), some (.int (vx_i v2)), some (.int (vx_i v3))] [] h (vx_RV P) := by
  refine vx_iload_n (n := 2) (q := 6) (by decide +kernel) rfl ?_
  refine vx_iload_n (n := 3) (q := 7) (by decide +kernel) rfl ?_
  obtain ⟨k1, H⟩ := H
  obtain ⟨k2, H⟩ := H
  refine vx_icmp_ge (off := 13) (q := 10) (t := 20) (by decide +kernel) k1 k2 (fun c3 => ?_) (fun c3 => ?_)
  · replace H := H.1 c3
    refine vx_retV (q := 21) (by decide +kernel) ?_
    exact H
  · replace H := H.2 c3
    refine vx_aload_n (n := 0) (q := 11) (by decide +kernel) rfl ?_
    refine vx_iload_n (n := 2) (q := 12) (by decide +kernel) rfl ?_
    refine vx_iload_n (n := 1) (q := 13) (by decide +kernel) rfl ?_
    obtain ⟨k4, H⟩ := H
    refine vx_iastore (z := (vx_za v0)) (q := 14) (by decide +kernel) (vx_Tk hT ov0) (vx_Tz hT ⟨ov0.1, rfl⟩) (vx_ix k4 (vx_za_lt _)) (fun h5 e5 => ?_)
    have hT5 := vx_TJ hT e5
    replace H := H h5 e5 hT5
    refine vx_iinc (n := 2) (m := 1) (x := v2) (q := 17) (lv' := [some (.ref v0), some (.int (vx_i v1)), some (.int (vx_i (v2 + 1))), some (.int (vx_i v3))]) (by decide +kernel) rfl rfl ?_
    refine vx_goto (off := (-12)) (q := 20) (t := 5) (by decide +kernel) ?_
    exact H
-- java/util/Arrays.fill([JJ)V
theorem vg_218 {d : Nat} {h : ve_H} {P : ve_H → Prop} {a1 : Nat} (o1 : vx_o 1 625 21 a1) {x2 : Int} (hT : vx_T 1 625 h) (H : vx_W d 218 6 [some (.ref a1), some (.long (vx_l x2)), none, some (.int (vx_i 0)), some (.int (vx_i (((vx_za a1) : Nat))))] [] h (vx_RV P)) : vx_CV d 218 [.ref a1, .long (vx_l x2)] h P := by
  refine vx_enter (ml := 5) (by decide +kernel) ?_
  show vx_W _ _ 0 [some (.ref a1), some (.long (vx_l x2)), none, none, none] [] h _
  refine vx_iconst (n := 0) (q := 1) (by decide +kernel) ?_
  refine vx_istore_n (n := 3) (q := 2) (lv' := [some (.ref a1), some (.long (vx_l x2)), none, some (.int (vx_i 0)), none]) (by decide +kernel) rfl ?_
  refine vx_aload_n (n := 0) (q := 3) (by decide +kernel) rfl ?_
  refine vx_alen (q := 4) (by decide +kernel) (by rw [(vx_Tk hT (kd := 21) o1)]; decide) ?_
  rw [(vx_Tz hT ⟨o1.1, rfl⟩)]
  refine vx_istore (n := 4) (q := 6) (lv' := [some (.ref a1), some (.long (vx_l x2)), none, some (.int (vx_i 0)), some (.int (vx_i (((vx_za a1) : Nat))))]) (by decide +kernel) rfl ?_
  exact H
theorem vg_218_6 {d : Nat} {h : ve_H} {P : ve_H → Prop} {v0 : Nat} (ov0 : vx_o 1 625 21 v0) {v1 : Int} {v3 : Int} {v4 : Int} (hT : vx_T 1 625 h) (H : (vx_rI v3) ∧ (vx_rI v4) ∧ ((v4 ≤ v3 → P h) ∧ (v3 < v4 → (0 ≤ v3 ∧ v3 < (vx_za v0)) ∧ (∀ h5, h5 = vx_sK h v0 v3.toNat v1 → vx_T 1 625 h5 → vx_W d 218 6 [some (.ref v0), some (.long (vx_l v1)), none, some (.int (vx_i (v3 + 1))), some (.int (vx_i v4))] [] h5 (vx_RV P))))) : vx_W d 218 6 [some (.ref v0), some (.long (vx_l v1)), none, some (.int (vx_i v3)), some (.int (vx_i v4))] [] h (vx_RV P) := by
  refine vx_iload_n (n := 3) (q := 7) (by decide +kernel) rfl ?_
  refine vx_iload (n := 4) (q := 9) (by decide +kernel) rfl ?_
  obtain ⟨k1, H⟩ := H
  obtain ⟨k2, H⟩ := H
  refine vx_icmp_ge (off := 13) (q := 12) (t := 22) (by decide +kernel) k1 k2 (fun c3 => ?_) (fun c3 => ?_)
  · replace H := H.1 c3
    refine vx_retV (q := 23) (by decide +kernel) ?_
    exact H
  · replace H := H.2 c3
    refine vx_aload_n (n := 0) (q := 13) (by decide +kernel) rfl ?_
    refine vx_iload_n (n := 3) (q := 14) (by decide +kernel) rfl ?_
    refine vx_lload_n (n := 1) (q := 15) (by decide +kernel) rfl ?_
    obtain ⟨k4, H⟩ := H
    refine vx_lastore (z := (vx_za v0)) (q := 16) (by decide +kernel) (vx_Tk hT ov0) (vx_Tz hT ⟨ov0.1, rfl⟩) (vx_ix k4 (vx_za_lt _)) (fun h5 e5 => ?_)
    have hT5 := vx_TK hT e5
    replace H := H h5 e5 hT5
    refine vx_iinc (n := 3) (m := 1) (x := v3) (q := 19) (lv' := [some (.ref v0), some (.long (vx_l v1)), none, some (.int (vx_i (v3 + 1))), some (.int (vx_i v4))]) (by decide +kernel) rfl rfl ?_
    refine vx_goto (off := (-13)) (q := 22) (t := 6) (by decide +kernel) ?_
    exact H
-- java/lang/Math.max(II)I
theorem vg_219 {d : Nat} {h : ve_H} {P : Int → ve_H → Prop} {x1 : Int} {x2 : Int} (hT : vx_T 1 625 h) (H : (vx_rI x1) ∧ (vx_rI x2) ∧ ((x1 < x2 → P x2 h) ∧ (x2 ≤ x1 → P x1 h))) : vx_CI d 219 [.int (vx_i x1), .int (vx_i x2)] h P := by
  refine vx_enter (ml := 2) (by decide +kernel) ?_
  show vx_W _ _ 0 [some (.int (vx_i x1)), some (.int (vx_i x2))] [] h _
  refine vx_iload_n (n := 0) (q := 1) (by decide +kernel) rfl ?_
  refine vx_iload_n (n := 1) (q := 2) (by decide +kernel) rfl ?_
  obtain ⟨k1, H⟩ := H
  obtain ⟨k2, H⟩ := H
  refine vx_icmp_lt (off := 7) (q := 5) (t := 9) (by decide +kernel) k1 k2 (fun c3 => ?_) (fun c3 => ?_)
  · replace H := H.1 c3
    refine vx_iload_n (n := 1) (q := 10) (by decide +kernel) rfl ?_
    refine vx_retI (q := 11) (by decide +kernel) k2 ?_
    exact H
  · replace H := H.2 c3
    refine vx_iload_n (n := 0) (q := 6) (by decide +kernel) rfl ?_
    refine vx_goto (off := 4) (q := 9) (t := 10) (by decide +kernel) ?_
    refine vx_retI (q := 11) (by decide +kernel) k1 ?_
    exact H
-- java/lang/Math.max(JJ)J
theorem vg_220 {d : Nat} {h : ve_H} {P : Int → ve_H → Prop} {x1 : Int} {x2 : Int} (hT : vx_T 1 625 h) (H : (vx_rL x1) ∧ (vx_rL x2) ∧ ((x1 < x2 → P x2 h) ∧ (x2 ≤ x1 → P x1 h))) : vx_CL d 220 [.long (vx_l x1), .long (vx_l x2)] h P := by
  refine vx_enter (ml := 4) (by decide +kernel) ?_
  show vx_W _ _ 0 [some (.long (vx_l x1)), none, some (.long (vx_l x2)), none] [] h _
  refine vx_lload_n (n := 0) (q := 1) (by decide +kernel) rfl ?_
  refine vx_lload_n (n := 2) (q := 2) (by decide +kernel) rfl ?_
  obtain ⟨k1, H⟩ := H
  obtain ⟨k2, H⟩ := H
  refine vx_lc_lt (off := 7) (p := 3) (q := 6) (t := 10) (by decide +kernel) k1 k2 (fun c3 => ?_) (fun c3 => ?_)
  · replace H := H.1 c3
    refine vx_lload_n (n := 2) (q := 11) (by decide +kernel) rfl ?_
    refine vx_retL (q := 12) (by decide +kernel) k2 ?_
    exact H
  · replace H := H.2 c3
    refine vx_lload_n (n := 0) (q := 7) (by decide +kernel) rfl ?_
    refine vx_goto (off := 4) (q := 10) (t := 11) (by decide +kernel) ?_
    refine vx_retL (q := 12) (by decide +kernel) k1 ?_
    exact H
-- java/lang/Math.min(JJ)J
theorem vg_221 {d : Nat} {h : ve_H} {P : Int → ve_H → Prop} {x1 : Int} {x2 : Int} (hT : vx_T 1 625 h) (H : (vx_rL x1) ∧ (vx_rL x2) ∧ ((x2 < x1 → P x2 h) ∧ (x1 ≤ x2 → P x1 h))) : vx_CL d 221 [.long (vx_l x1), .long (vx_l x2)] h P := by
  refine vx_enter (ml := 4) (by decide +kernel) ?_
  show vx_W _ _ 0 [some (.long (vx_l x1)), none, some (.long (vx_l x2)), none] [] h _
  refine vx_lload_n (n := 0) (q := 1) (by decide +kernel) rfl ?_
  refine vx_lload_n (n := 2) (q := 2) (by decide +kernel) rfl ?_
  obtain ⟨k1, H⟩ := H
  obtain ⟨k2, H⟩ := H
  refine vx_lc_gt (off := 7) (p := 3) (q := 6) (t := 10) (by decide +kernel) k1 k2 (fun c3 => ?_) (fun c3 => ?_)
  · replace H := H.1 c3
    refine vx_lload_n (n := 2) (q := 11) (by decide +kernel) rfl ?_
    refine vx_retL (q := 12) (by decide +kernel) k2 ?_
    exact H
  · replace H := H.2 c3
    refine vx_lload_n (n := 0) (q := 7) (by decide +kernel) rfl ?_
    refine vx_goto (off := 4) (q := 10) (t := 11) (by decide +kernel) ?_
    refine vx_retL (q := 12) (by decide +kernel) k1 ?_
    exact H
