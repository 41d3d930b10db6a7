/-! Printed by my own program (wip/whole/gen_seg.py): walks of methods 182-190 -/
-- RuleHouse$Rule.clear()V
theorem vg_182 {d : Nat} {h : ve_H} {P : ve_H → Prop} {a0 : Nat} (o0 : vx_o 1 625 7 a0) (hT : vx_T 1 625 h) (H : (∀ h1, h1 = vx_sJ h a0 0 ((-1)) → vx_T 1 625 h1 → (∀ h2, h2 = vx_sJ h1 a0 2 ((-1)) → vx_T 1 625 h2 → (∀ h3, h3 = vx_sJ h2 a0 5 0 → vx_T 1 625 h3 → (∀ h4, h4 = vx_sJ h3 a0 6 0 → vx_T 1 625 h4 → (∀ h5, h5 = vx_sJ h4 a0 7 0 → vx_T 1 625 h5 → P h5)))))) : vx_CV d 182 [.ref a0] h P := by
  refine vx_enter (ml := 1) (by decide +kernel) ?_
  show vx_W _ _ 0 [some (.ref a0)] [] h _
  refine vx_aload_n (n := 0) (q := 1) (by decide +kernel) rfl ?_
  refine vx_iconst (n := (-1)) (q := 2) (by decide +kernel) ?_
  refine vx_putI (idx := 38) (kd := 7) (s := 0) (fin := false) (q := 5) (by decide +kernel) (vx_Tk hT o0) (fun h1 e1 => ?_)
  have hT1 := vx_TJ hT e1
  replace H := H h1 e1 hT1
  refine vx_aload_n (n := 0) (q := 6) (by decide +kernel) rfl ?_
  refine vx_iconst (n := (-1)) (q := 7) (by decide +kernel) ?_
  refine vx_putI (idx := 42) (kd := 7) (s := 2) (fin := false) (q := 10) (by decide +kernel) (vx_Tk hT1 o0) (fun h2 e2 => ?_)
  have hT2 := vx_TJ hT1 e2
  replace H := H h2 e2 hT2
  refine vx_aload_n (n := 0) (q := 11) (by decide +kernel) rfl ?_
  refine vx_iconst (n := 0) (q := 12) (by decide +kernel) ?_
  refine vx_putI (idx := 45) (kd := 7) (s := 5) (fin := false) (q := 15) (by decide +kernel) (vx_Tk hT2 o0) (fun h3 e3 => ?_)
  have hT3 := vx_TJ hT2 e3
  replace H := H h3 e3 hT3
  refine vx_aload_n (n := 0) (q := 16) (by decide +kernel) rfl ?_
  refine vx_iconst (n := 0) (q := 17) (by decide +kernel) ?_
  refine vx_putI (idx := 48) (kd := 7) (s := 6) (fin := false) (q := 20) (by decide +kernel) (vx_Tk hT3 o0) (fun h4 e4 => ?_)
  have hT4 := vx_TJ hT3 e4
  replace H := H h4 e4 hT4
  refine vx_aload_n (n := 0) (q := 21) (by decide +kernel) rfl ?_
  refine vx_iconst (n := 0) (q := 22) (by decide +kernel) ?_
  refine vx_putI (idx := 51) (kd := 7) (s := 7) (fin := false) (q := 25) (by decide +kernel) (vx_Tk hT4 o0) (fun h5 e5 => ?_)
  have hT5 := vx_TJ hT4 e5
  replace H := H h5 e5 hT5
  refine vx_retV (q := 26) (by decide +kernel) ?_
  exact H
-- RuleHouse$Rule.setLiteral(III[J)V
theorem vg_183 {d : Nat} {h : ve_H} {P : ve_H → Prop} {a0 : Nat} (o0 : vx_o 1 625 7 a0) {x1 : Int} {x2 : Int} {x3 : Int} {a4 : Nat} (o4 : vx_o 1 625 21 a4) (hT : vx_T 1 625 h) (H : (0 ≤ x1 ∧ x1 < 6) ∧ (∀ h2, h2 = vx_sJ h (vx_r a0 8) x1.toNat x2 → vx_T 1 625 h2 → (0 ≤ x1 ∧ x1 < 6) ∧ (∀ h4, h4 = vx_sJ h2 (vx_r a0 9) x1.toNat x3 → vx_T 1 625 h4 → ((0 : Int) ≤ 4 ∧ (0 : Int) ≤ 0 ∧ (0 : Int) ≤ (x1 * 4) ∧ (0 : Int) + 4 ≤ ((vx_za a4) : Nat) ∧ ((x1 * 4) : Int) + 4 ≤ (24 : Nat)) ∧ (∀ h5, h5 = ve_cp h4 a4 0 (vx_r a0 11) (x1 * 4).toNat h4 4 → vx_T 1 625 h5 → (∀ h7, h7 = vx_sJ h5 a0 6 (x1 + 1) → vx_T 1 625 h7 → P h7))))) : vx_CV d 183 [.ref a0, .int (vx_i x1), .int (vx_i x2), .int (vx_i x3), .ref a4] h P := by
  refine vx_enter (ml := 5) (by decide +kernel) ?_
  show vx_W _ _ 0 [some (.ref a0), some (.int (vx_i x1)), some (.int (vx_i x2)), some (.int (vx_i x3)), some (.ref a4)] [] h _
  refine vx_aload_n (n := 0) (q := 1) (by decide +kernel) rfl ?_
  refine vx_getR (b := vx_r a0 8) (idx := 15) (kd := 7) (s := 8) (fin := true) (q := 4) (by decide +kernel) (vx_Tk hT o0) (vx_Tr hT (kd := 7) o0 (by decide +kernel) (vx_f7_8 o0).1) ?_
  refine vx_iload_n (n := 1) (q := 5) (by decide +kernel) rfl ?_
  refine vx_iload_n (n := 2) (q := 6) (by decide +kernel) rfl ?_
  obtain ⟨k1, H⟩ := H
  refine vx_iastore (z := 6) (q := 7) (by decide +kernel) (vx_Tk hT (vx_f7_8 o0).2.1) (vx_Tz hT ⟨(vx_f7_8 o0).2.1.1, (vx_f7_8 o0).2.2⟩) (vx_ix k1 (by decide)) (fun h2 e2 => ?_)
  have hT2 := vx_TJ hT e2
  replace H := H h2 e2 hT2
  refine vx_aload_n (n := 0) (q := 8) (by decide +kernel) rfl ?_
  refine vx_getR (b := vx_r a0 9) (idx := 19) (kd := 7) (s := 9) (fin := true) (q := 11) (by decide +kernel) (vx_Tk hT2 o0) (vx_Tr hT2 (kd := 7) o0 (by decide +kernel) (vx_f7_9 o0).1) ?_
  refine vx_iload_n (n := 1) (q := 12) (by decide +kernel) rfl ?_
  refine vx_iload_n (n := 3) (q := 13) (by decide +kernel) rfl ?_
  obtain ⟨k3, H⟩ := H
  refine vx_iastore (z := 6) (q := 14) (by decide +kernel) (vx_Tk hT2 (vx_f7_9 o0).2.1) (vx_Tz hT2 ⟨(vx_f7_9 o0).2.1.1, (vx_f7_9 o0).2.2⟩) (vx_ix k3 (by decide)) (fun h4 e4 => ?_)
  have hT4 := vx_TJ hT2 e4
  replace H := H h4 e4 hT4
  refine vx_aload (n := 4) (q := 16) (by decide +kernel) rfl ?_
  refine vx_iconst (n := 0) (q := 17) (by decide +kernel) ?_
  refine vx_aload_n (n := 0) (q := 18) (by decide +kernel) rfl ?_
  refine vx_getR (b := vx_r a0 11) (idx := 25) (kd := 7) (s := 11) (fin := true) (q := 21) (by decide +kernel) (vx_Tk hT4 o0) (vx_Tr hT4 (kd := 7) o0 (by decide +kernel) (vx_f7_11 o0).1) ?_
  refine vx_iload_n (n := 1) (q := 22) (by decide +kernel) rfl ?_
  refine vx_iconst (n := 4) (q := 23) (by decide +kernel) ?_
  refine vx_imul (q := 24) (by decide +kernel) ?_
  refine vx_iconst (n := 4) (q := 25) (by decide +kernel) ?_
  obtain ⟨k6, H⟩ := H
  refine vx_acopy (i := .invokestatic 54) (np := 5) (cm := 0) (q := 28) (z1 := (vx_za a4)) (z2 := 24) (by decide +kernel) (vx_Tk hT4 o4) (vx_Tk hT4 (vx_f7_11 o0).2.1) (vx_Tz hT4 ⟨o4.1, rfl⟩) (vx_Tz hT4 ⟨(vx_f7_11 o0).2.1.1, (vx_f7_11 o0).2.2⟩) (vx_cx k6 (vx_za_lt _) (by decide)) rfl (fun h5 e5 => ?_)
  have hT5 := vx_Tcp hT4 e5
  replace H := H h5 e5 hT5
  refine vx_aload_n (n := 0) (q := 29) (by decide +kernel) rfl ?_
  refine vx_iload_n (n := 1) (q := 30) (by decide +kernel) rfl ?_
  refine vx_iconst (n := 1) (q := 31) (by decide +kernel) ?_
  refine vx_iadd (q := 32) (by decide +kernel) ?_
  refine vx_putI (idx := 48) (kd := 7) (s := 6) (fin := false) (q := 35) (by decide +kernel) (vx_Tk hT5 o0) (fun h7 e7 => ?_)
  have hT7 := vx_TJ hT5 e7
  replace H := H h7 e7 hT7
  refine vx_retV (q := 36) (by decide +kernel) ?_
  exact H
-- RuleHouse$Rule.asks(I)Z
theorem vg_184 {d : Nat} {h : ve_H} {P : Int → ve_H → Prop} {a0 : Nat} (o0 : vx_o 1 625 7 a0) {x1 : Int} (hT : vx_T 1 625 h) (H : (0 ≤ x1 ∧ x1 < 6) ∧ (((vx_J h (vx_r a0 8) x1.toNat) = 14 → P 1 h) ∧ ((vx_J h (vx_r a0 8) x1.toNat) ≠ 14 → (0 ≤ x1 ∧ x1 < 6) ∧ (((vx_J h (vx_r a0 8) x1.toNat) ≠ 15 → P 0 h) ∧ ((vx_J h (vx_r a0 8) x1.toNat) = 15 → P 1 h))))) : vx_CI d 184 [.ref a0, .int (vx_i x1)] h P := by
  refine vx_enter (ml := 2) (by decide +kernel) ?_
  show vx_W _ _ 0 [some (.ref a0), some (.int (vx_i x1))] [] h _
  refine vx_aload_n (n := 0) (q := 1) (by decide +kernel) rfl ?_
  refine vx_getR (b := vx_r a0 8) (idx := 15) (kd := 7) (s := 8) (fin := true) (q := 4) (by decide +kernel) (vx_Tk hT o0) (vx_Tr hT (kd := 7) o0 (by decide +kernel) (vx_f7_8 o0).1) ?_
  refine vx_iload_n (n := 1) (q := 5) (by decide +kernel) rfl ?_
  obtain ⟨k1, H⟩ := H
  refine vx_iaload (z := 6) (q := 6) (by decide +kernel) (vx_Tk hT (vx_f7_8 o0).2.1) (vx_Tz hT ⟨(vx_f7_8 o0).2.1.1, (vx_f7_8 o0).2.2⟩) (vx_ix k1 (by decide)) ?_
  refine vx_bipush (n := 14) (q := 8) (by decide +kernel) ?_
  refine vx_icmp_eq (off := 14) (q := 11) (t := 22) (by decide +kernel) (vx_rI_J h (vx_r a0 8) x1.toNat) (by decide) (fun c2 => ?_) (fun c2 => ?_)
  · replace H := H.1 c2
    refine vx_iconst (n := 1) (q := 23) (by decide +kernel) ?_
    refine vx_goto (off := 4) (q := 26) (t := 27) (by decide +kernel) ?_
    refine vx_retZ (q := 28) (by decide +kernel) (Or.inr rfl) ?_
    exact H
  · replace H := H.2 c2
    refine vx_aload_n (n := 0) (q := 12) (by decide +kernel) rfl ?_
    refine vx_getR (b := vx_r a0 8) (idx := 15) (kd := 7) (s := 8) (fin := true) (q := 15) (by decide +kernel) (vx_Tk hT o0) (vx_Tr hT (kd := 7) o0 (by decide +kernel) (vx_f7_8 o0).1) ?_
    refine vx_iload_n (n := 1) (q := 16) (by decide +kernel) rfl ?_
    obtain ⟨k3, H⟩ := H
    refine vx_iaload (z := 6) (q := 17) (by decide +kernel) (vx_Tk hT (vx_f7_8 o0).2.1) (vx_Tz hT ⟨(vx_f7_8 o0).2.1.1, (vx_f7_8 o0).2.2⟩) (vx_ix k3 (by decide)) ?_
    refine vx_bipush (n := 15) (q := 19) (by decide +kernel) ?_
    refine vx_icmp_ne (off := 7) (q := 22) (t := 26) (by decide +kernel) (vx_rI_J h (vx_r a0 8) x1.toNat) (by decide) (fun c4 => ?_) (fun c4 => ?_)
    · replace H := H.1 c4
      refine vx_iconst (n := 0) (q := 27) (by decide +kernel) ?_
      refine vx_retZ (q := 28) (by decide +kernel) (Or.inl rfl) ?_
      exact H
    · replace H := H.2 c4
      refine vx_iconst (n := 1) (q := 23) (by decide +kernel) ?_
      refine vx_goto (off := 4) (q := 26) (t := 27) (by decide +kernel) ?_
      refine vx_retZ (q := 28) (by decide +kernel) (Or.inr rfl) ?_
      exact H
-- RuleHouse$Rule.plan()I
theorem vg_185 {d : Nat} {h : ve_H} {P : Int → ve_H → Prop} {a0 : Nat} (o0 : vx_o 1 625 7 a0) (hT : vx_T 1 625 h) (H : (((vx_J h a0 0) = ((-1)) → (∀ h2, h2 = vx_sJ h a0 15 (vx_J h a0 6) → vx_T 1 625 h2 → vx_W (d + 1) 185 42 [some (.ref a0), some (.int (vx_i ((vx_shl 1 (vx_J h a0 5)) - 1))), some (.int (vx_i 0)), some (.int (vx_i 0)), some (.int (vx_i 0)), none] [] h2 (vx_RI P))) ∧ ((vx_J h a0 0) ≠ ((-1)) → vx_CI d 190 [.ref (vx_r a0 1), .int (vx_i 0), .int (vx_i 4)] h (fun r3 h3 => vx_T 1 625 h3 → (∀ h4, h4 = vx_sJ h3 a0 15 (vx_J h3 a0 6) → vx_T 1 625 h4 → vx_W (d + 1) 185 42 [some (.ref a0), some (.int (vx_i r3)), some (.int (vx_i 0)), some (.int (vx_i 0)), some (.int (vx_i 0)), none] [] h4 (vx_RI P)))))) : vx_CI (d + 1) 185 [.ref a0] h P := by
  refine vx_enter (ml := 6) (by decide +kernel) ?_
  show vx_W _ _ 0 [some (.ref a0), none, none, none, none, none] [] h _
  refine vx_iconst (n := 1) (q := 1) (by decide +kernel) ?_
  refine vx_aload_n (n := 0) (q := 2) (by decide +kernel) rfl ?_
  refine vx_getI (idx := 45) (kd := 7) (s := 5) (fin := false) (q := 5) (by decide +kernel) (vx_Tk hT o0) ?_
  refine vx_ishl (q := 6) (by decide +kernel) ?_
  refine vx_iconst (n := 1) (q := 7) (by decide +kernel) ?_
  refine vx_isub (q := 8) (by decide +kernel) ?_
  refine vx_istore_n (n := 1) (q := 9) (lv' := [some (.ref a0), some (.int (vx_i ((vx_shl 1 (vx_J h a0 5)) - 1))), none, none, none, none]) (by decide +kernel) rfl ?_
  refine vx_aload_n (n := 0) (q := 10) (by decide +kernel) rfl ?_
  refine vx_getI (idx := 38) (kd := 7) (s := 0) (fin := false) (q := 13) (by decide +kernel) (vx_Tk hT o0) ?_
  refine vx_iconst (n := (-1)) (q := 14) (by decide +kernel) ?_
  refine vx_icmp_eq (off := 13) (q := 17) (t := 27) (by decide +kernel) (vx_rI_J h a0 0) (by decide) (fun c1 => ?_) (fun c1 => ?_)
  · replace H := H.1 c1
    refine vx_iconst (n := 0) (q := 28) (by decide +kernel) ?_
    refine vx_istore_n (n := 2) (q := 29) (lv' := [some (.ref a0), some (.int (vx_i ((vx_shl 1 (vx_J h a0 5)) - 1))), some (.int (vx_i 0)), none, none, none]) (by decide +kernel) rfl ?_
    refine vx_iconst (n := 0) (q := 30) (by decide +kernel) ?_
    refine vx_istore_n (n := 3) (q := 31) (lv' := [some (.ref a0), some (.int (vx_i ((vx_shl 1 (vx_J h a0 5)) - 1))), some (.int (vx_i 0)), some (.int (vx_i 0)), none, none]) (by decide +kernel) rfl ?_
    refine vx_aload_n (n := 0) (q := 32) (by decide +kernel) rfl ?_
    refine vx_aload_n (n := 0) (q := 33) (by decide +kernel) rfl ?_
    refine vx_getI (idx := 48) (kd := 7) (s := 6) (fin := false) (q := 36) (by decide +kernel) (vx_Tk hT o0) ?_
    refine vx_putI (idx := 64) (kd := 7) (s := 15) (fin := false) (q := 39) (by decide +kernel) (vx_Tk hT o0) (fun h2 e2 => ?_)
    have hT2 := vx_TJ hT e2
    replace H := H h2 e2 hT2
    refine vx_iconst (n := 0) (q := 40) (by decide +kernel) ?_
    refine vx_istore (n := 4) (q := 42) (lv' := [some (.ref a0), some (.int (vx_i ((vx_shl 1 (vx_J h a0 5)) - 1))), some (.int (vx_i 0)), some (.int (vx_i 0)), some (.int (vx_i 0)), none]) (by decide +kernel) rfl ?_
    exact H
  · replace H := H.2 c1
    refine vx_aload_n (n := 0) (q := 18) (by decide +kernel) rfl ?_
    refine vx_getR (b := vx_r a0 1) (idx := 9) (kd := 7) (s := 1) (fin := true) (q := 21) (by decide +kernel) (vx_Tk hT o0) (vx_Tr hT (kd := 7) o0 (by decide +kernel) (vx_f7_1 o0).1) ?_
    refine vx_iconst (n := 0) (q := 22) (by decide +kernel) ?_
    refine vx_iconst (n := 4) (q := 23) (by decide +kernel) ?_
    refine vx_callI (i := .invokestatic 60) (how := 4) (cm := 190) (np := 3) (q := 26) (args := [.ref (vx_r a0 1), .int (vx_i 0), .int (vx_i 4)]) (rest := []) (by decide +kernel) rfl rfl rfl (vx_w2 (w := 3) (ml := 5) rfl (by decide +kernel)) rfl H (fun r3 h3 hr3 hs3 H => ?_)
    have hT3 := vx_Tsh hT hs3
    replace H := H hT3
    refine vx_istore_n (n := 1) (q := 27) (lv' := [some (.ref a0), some (.int (vx_i r3)), none, none, none, none]) (by decide +kernel) rfl ?_
    refine vx_iconst (n := 0) (q := 28) (by decide +kernel) ?_
    refine vx_istore_n (n := 2) (q := 29) (lv' := [some (.ref a0), some (.int (vx_i r3)), some (.int (vx_i 0)), none, none, none]) (by decide +kernel) rfl ?_
    refine vx_iconst (n := 0) (q := 30) (by decide +kernel) ?_
    refine vx_istore_n (n := 3) (q := 31) (lv' := [some (.ref a0), some (.int (vx_i r3)), some (.int (vx_i 0)), some (.int (vx_i 0)), none, none]) (by decide +kernel) rfl ?_
    refine vx_aload_n (n := 0) (q := 32) (by decide +kernel) rfl ?_
    refine vx_aload_n (n := 0) (q := 33) (by decide +kernel) rfl ?_
    refine vx_getI (idx := 48) (kd := 7) (s := 6) (fin := false) (q := 36) (by decide +kernel) (vx_Tk hT3 o0) ?_
    refine vx_putI (idx := 64) (kd := 7) (s := 15) (fin := false) (q := 39) (by decide +kernel) (vx_Tk hT3 o0) (fun h4 e4 => ?_)
    have hT4 := vx_TJ hT3 e4
    replace H := H h4 e4 hT4
    refine vx_iconst (n := 0) (q := 40) (by decide +kernel) ?_
    refine vx_istore (n := 4) (q := 42) (lv' := [some (.ref a0), some (.int (vx_i r3)), some (.int (vx_i 0)), some (.int (vx_i 0)), some (.int (vx_i 0)), none]) (by decide +kernel) rfl ?_
    exact H
theorem vg_185_42 {d : Nat} {h : ve_H} {P : Int → ve_H → Prop} {v0 : Nat} (ov0 : vx_o 1 625 7 v0) {v1 : Int} {v2 : Int} {v3 : Int} {v4 : Int} {v5 : Option Value} (hT : vx_T 1 625 h) (H : (vx_rI v4) ∧ (((vx_J h v0 6) ≤ v4 → (((vx_J h v0 2) = ((-1)) → (vx_rI v2) ∧ P v2 h) ∧ ((vx_J h v0 2) ≠ ((-1)) → (∀ h5, h5 = vx_sJ h v0 15 7 → vx_T 1 625 h5 → (vx_rI v2) ∧ P v2 h5)))) ∧ (v4 < (vx_J h v0 6) → (((vx_and v1 (vx_xor v2 ((-1)))) ≠ 0 → vx_CI d 186 [.ref v0, .int (vx_i v3), .int (vx_i v2)] h (fun r8 h8 => vx_T 1 625 h8 → ((r8 ≠ ((-1)) → (0 ≤ v4 ∧ v4 < 6) ∧ (∀ h11, h11 = vx_sJ h8 (vx_r v0 12) v4.toNat r8 → vx_T 1 625 h11 → (0 ≤ v4 ∧ v4 < 6) ∧ (∀ h13, h13 = vx_sJ h11 (vx_r v0 13) v4.toNat v2 → vx_T 1 625 h13 → vx_CI d 188 [.ref v0, .int (vx_i r8), .int (vx_i v2)] h13 (fun r14 h14 => vx_T 1 625 h14 → (0 ≤ v4 ∧ v4 < 6) ∧ (r14 = 0 ∨ r14 = 1) ∧ (∀ h17, h17 = vx_sJ h14 (vx_r v0 14) v4.toNat r14 → vx_T 1 625 h17 → vx_CI d 189 [.ref v0, .int (vx_i r8)] h17 (fun r18 h18 => vx_T 1 625 h18 → vx_W (d + 1) 185 42 [some (.ref v0), some (.int (vx_i v1)), some (.int (vx_i (vx_or v2 r18))), some (.int (vx_i (vx_or v3 (vx_shl 1 r8)))), some (.int (vx_i (v4 + 1))), some (.int (vx_i r8))] [] h18 (vx_RI P))))))) ∧ (r8 = ((-1)) → (((vx_J h8 v0 2) = ((-1)) → (vx_rI v2) ∧ P v2 h8) ∧ ((vx_J h8 v0 2) ≠ ((-1)) → (∀ h21, h21 = vx_sJ h8 v0 15 7 → vx_T 1 625 h21 → (vx_rI v2) ∧ P v2 h21))))))) ∧ ((vx_and v1 (vx_xor v2 ((-1)))) = 0 → (((vx_J h v0 15) ≠ (vx_J h v0 6) → vx_CI d 186 [.ref v0, .int (vx_i v3), .int (vx_i v2)] h (fun r24 h24 => vx_T 1 625 h24 → ((r24 ≠ ((-1)) → (0 ≤ v4 ∧ v4 < 6) ∧ (∀ h27, h27 = vx_sJ h24 (vx_r v0 12) v4.toNat r24 → vx_T 1 625 h27 → (0 ≤ v4 ∧ v4 < 6) ∧ (∀ h29, h29 = vx_sJ h27 (vx_r v0 13) v4.toNat v2 → vx_T 1 625 h29 → vx_CI d 188 [.ref v0, .int (vx_i r24), .int (vx_i v2)] h29 (fun r30 h30 => vx_T 1 625 h30 → (0 ≤ v4 ∧ v4 < 6) ∧ (r30 = 0 ∨ r30 = 1) ∧ (∀ h33, h33 = vx_sJ h30 (vx_r v0 14) v4.toNat r30 → vx_T 1 625 h33 → vx_CI d 189 [.ref v0, .int (vx_i r24)] h33 (fun r34 h34 => vx_T 1 625 h34 → vx_W (d + 1) 185 42 [some (.ref v0), some (.int (vx_i v1)), some (.int (vx_i (vx_or v2 r34))), some (.int (vx_i (vx_or v3 (vx_shl 1 r24)))), some (.int (vx_i (v4 + 1))), some (.int (vx_i r24))] [] h34 (vx_RI P))))))) ∧ (r24 = ((-1)) → (((vx_J h24 v0 2) = ((-1)) → (vx_rI v2) ∧ P v2 h24) ∧ ((vx_J h24 v0 2) ≠ ((-1)) → (∀ h37, h37 = vx_sJ h24 v0 15 7 → vx_T 1 625 h37 → (vx_rI v2) ∧ P v2 h37))))))) ∧ ((vx_J h v0 15) = (vx_J h v0 6) → (∀ h39, h39 = vx_sJ h v0 15 v4 → vx_T 1 625 h39 → vx_CI d 186 [.ref v0, .int (vx_i v3), .int (vx_i v2)] h39 (fun r40 h40 => vx_T 1 625 h40 → ((r40 ≠ ((-1)) → (0 ≤ v4 ∧ v4 < 6) ∧ (∀ h43, h43 = vx_sJ h40 (vx_r v0 12) v4.toNat r40 → vx_T 1 625 h43 → (0 ≤ v4 ∧ v4 < 6) ∧ (∀ h45, h45 = vx_sJ h43 (vx_r v0 13) v4.toNat v2 → vx_T 1 625 h45 → vx_CI d 188 [.ref v0, .int (vx_i r40), .int (vx_i v2)] h45 (fun r46 h46 => vx_T 1 625 h46 → (0 ≤ v4 ∧ v4 < 6) ∧ (r46 = 0 ∨ r46 = 1) ∧ (∀ h49, h49 = vx_sJ h46 (vx_r v0 14) v4.toNat r46 → vx_T 1 625 h49 → vx_CI d 189 [.ref v0, .int (vx_i r40)] h49 (fun r50 h50 => vx_T 1 625 h50 → vx_W (d + 1) 185 42 [some (.ref v0), some (.int (vx_i v1)), some (.int (vx_i (vx_or v2 r50))), some (.int (vx_i (vx_or v3 (vx_shl 1 r40)))), some (.int (vx_i (v4 + 1))), some (.int (vx_i r40))] [] h50 (vx_RI P))))))) ∧ (r40 = ((-1)) → (((vx_J h40 v0 2) = ((-1)) → (vx_rI v2) ∧ P v2 h40) ∧ ((vx_J h40 v0 2) ≠ ((-1)) → (∀ h53, h53 = vx_sJ h40 v0 15 7 → vx_T 1 625 h53 → (vx_rI v2) ∧ P v2 h53)))))))))))))) : vx_W (d + 1) 185 42 [some (.ref v0), some (.int (vx_i v1)), some (.int (vx_i v2)), some (.int (vx_i v3)), some (.int (vx_i v4)), v5] [] h (vx_RI P) := by
  refine vx_iload (n := 4) (q := 44) (by decide +kernel) rfl ?_
  refine vx_aload_n (n := 0) (q := 45) (by decide +kernel) rfl ?_
  refine vx_getI (idx := 48) (kd := 7) (s := 6) (fin := false) (q := 48) (by decide +kernel) (vx_Tk hT ov0) ?_
  obtain ⟨k1, H⟩ := H
  refine vx_icmp_ge (off := 98) (q := 51) (t := 146) (by decide +kernel) k1 (vx_rI_J h v0 6) (fun c2 => ?_) (fun c2 => ?_)
  · replace H := H.1 c2
    refine vx_aload_n (n := 0) (q := 147) (by decide +kernel) rfl ?_
    refine vx_getI (idx := 42) (kd := 7) (s := 2) (fin := false) (q := 150) (by decide +kernel) (vx_Tk hT ov0) ?_
    refine vx_iconst (n := (-1)) (q := 151) (by decide +kernel) ?_
    refine vx_icmp_eq (off := 9) (q := 154) (t := 160) (by decide +kernel) (vx_rI_J h v0 2) (by decide) (fun c3 => ?_) (fun c3 => ?_)
    · replace H := H.1 c3
      refine vx_iload_n (n := 2) (q := 161) (by decide +kernel) rfl ?_
      obtain ⟨k4, H⟩ := H
      refine vx_retI (q := 162) (by decide +kernel) k4 ?_
      exact H
    · replace H := H.2 c3
      refine vx_aload_n (n := 0) (q := 155) (by decide +kernel) rfl ?_
      refine vx_bipush (n := 7) (q := 157) (by decide +kernel) ?_
      refine vx_putI (idx := 64) (kd := 7) (s := 15) (fin := false) (q := 160) (by decide +kernel) (vx_Tk hT ov0) (fun h5 e5 => ?_)
      have hT5 := vx_TJ hT e5
      replace H := H h5 e5 hT5
      refine vx_iload_n (n := 2) (q := 161) (by decide +kernel) rfl ?_
      obtain ⟨k6, H⟩ := H
      refine vx_retI (q := 162) (by decide +kernel) k6 ?_
      exact H
  · replace H := H.2 c2
    refine vx_iload_n (n := 1) (q := 52) (by decide +kernel) rfl ?_
    refine vx_iload_n (n := 2) (q := 53) (by decide +kernel) rfl ?_
    refine vx_iconst (n := (-1)) (q := 54) (by decide +kernel) ?_
    refine vx_ixor (q := 55) (by decide +kernel) ?_
    refine vx_iand (q := 56) (by decide +kernel) ?_
    refine vx_if0_ne (off := 20) (q := 59) (t := 76) (by decide +kernel) (vx_rI_toInt _) (fun c7 => ?_) (fun c7 => ?_)
    · replace H := H.1 c7
      refine vx_aload_n (n := 0) (q := 77) (by decide +kernel) rfl ?_
      refine vx_iload_n (n := 3) (q := 78) (by decide +kernel) rfl ?_
      refine vx_iload_n (n := 2) (q := 79) (by decide +kernel) rfl ?_
      refine vx_callI (i := .invokevirtual 67) (how := 3) (cm := 186) (np := 3) (q := 82) (args := [.ref v0, .int (vx_i v3), .int (vx_i v2)]) (rest := []) (by decide +kernel) rfl rfl rfl (vx_w2 (w := 3) (ml := 5) rfl (by decide +kernel)) (vx_rcv (kd := 7) (vx_Tk hT ov0) (by decide +kernel)) H (fun r8 h8 hr8 hs8 H => ?_)
      have hT8 := vx_Tsh hT hs8
      replace H := H hT8
      refine vx_istore (n := 5) (q := 84) (lv' := [some (.ref v0), some (.int (vx_i v1)), some (.int (vx_i v2)), some (.int (vx_i v3)), some (.int (vx_i v4)), some (.int (vx_i r8))]) (by decide +kernel) rfl ?_
      refine vx_iload (n := 5) (q := 86) (by decide +kernel) rfl ?_
      refine vx_iconst (n := (-1)) (q := 87) (by decide +kernel) ?_
      refine vx_icmp_ne (off := 6) (q := 90) (t := 93) (by decide +kernel) hr8 (by decide) (fun c9 => ?_) (fun c9 => ?_)
      · replace H := H.1 c9
        refine vx_aload_n (n := 0) (q := 94) (by decide +kernel) rfl ?_
        refine vx_getR (b := vx_r v0 12) (idx := 28) (kd := 7) (s := 12) (fin := true) (q := 97) (by decide +kernel) (vx_Tk hT8 ov0) (vx_Tr hT8 (kd := 7) ov0 (by decide +kernel) (vx_f7_12 ov0).1) ?_
        refine vx_iload (n := 4) (q := 99) (by decide +kernel) rfl ?_
        refine vx_iload (n := 5) (q := 101) (by decide +kernel) rfl ?_
        obtain ⟨k10, H⟩ := H
        refine vx_iastore (z := 6) (q := 102) (by decide +kernel) (vx_Tk hT8 (vx_f7_12 ov0).2.1) (vx_Tz hT8 ⟨(vx_f7_12 ov0).2.1.1, (vx_f7_12 ov0).2.2⟩) (vx_ix k10 (by decide)) (fun h11 e11 => ?_)
        have hT11 := vx_TJ hT8 e11
        replace H := H h11 e11 hT11
        refine vx_aload_n (n := 0) (q := 103) (by decide +kernel) rfl ?_
        refine vx_getR (b := vx_r v0 13) (idx := 31) (kd := 7) (s := 13) (fin := true) (q := 106) (by decide +kernel) (vx_Tk hT11 ov0) (vx_Tr hT11 (kd := 7) ov0 (by decide +kernel) (vx_f7_13 ov0).1) ?_
        refine vx_iload (n := 4) (q := 108) (by decide +kernel) rfl ?_
        refine vx_iload_n (n := 2) (q := 109) (by decide +kernel) rfl ?_
        obtain ⟨k12, H⟩ := H
        refine vx_iastore (z := 6) (q := 110) (by decide +kernel) (vx_Tk hT11 (vx_f7_13 ov0).2.1) (vx_Tz hT11 ⟨(vx_f7_13 ov0).2.1.1, (vx_f7_13 ov0).2.2⟩) (vx_ix k12 (by decide)) (fun h13 e13 => ?_)
        have hT13 := vx_TJ hT11 e13
        replace H := H h13 e13 hT13
        refine vx_aload_n (n := 0) (q := 111) (by decide +kernel) rfl ?_
        refine vx_getR (b := vx_r v0 14) (idx := 34) (kd := 7) (s := 14) (fin := true) (q := 114) (by decide +kernel) (vx_Tk hT13 ov0) (vx_Tr hT13 (kd := 7) ov0 (by decide +kernel) (vx_f7_14 ov0).1) ?_
        refine vx_iload (n := 4) (q := 116) (by decide +kernel) rfl ?_
        refine vx_aload_n (n := 0) (q := 117) (by decide +kernel) rfl ?_
        refine vx_iload (n := 5) (q := 119) (by decide +kernel) rfl ?_
        refine vx_iload_n (n := 2) (q := 120) (by decide +kernel) rfl ?_
        refine vx_callI (i := .invokevirtual 71) (how := 3) (cm := 188) (np := 3) (q := 123) (args := [.ref v0, .int (vx_i r8), .int (vx_i v2)]) (rest := [.int (vx_i v4), .ref (vx_r v0 14)]) (by decide +kernel) rfl rfl rfl (vx_w2 (w := 3) (ml := 4) rfl (by decide +kernel)) (vx_rcv (kd := 7) (vx_Tk hT13 ov0) (by decide +kernel)) H (fun r14 h14 hr14 hs14 H => ?_)
        have hT14 := vx_Tsh hT13 hs14
        replace H := H hT14
        obtain ⟨k15, H⟩ := H
        obtain ⟨k16, H⟩ := H
        refine vx_zastore (z := 6) (q := 124) (by decide +kernel) (vx_Tk hT14 (vx_f7_14 ov0).2.1) (vx_Tz hT14 ⟨(vx_f7_14 ov0).2.1.1, (vx_f7_14 ov0).2.2⟩) (vx_ix k15 (by decide)) k16 (fun h17 e17 => ?_)
        have hT17 := vx_TJ hT14 e17
        replace H := H h17 e17 hT17
        refine vx_iload_n (n := 3) (q := 125) (by decide +kernel) rfl ?_
        refine vx_iconst (n := 1) (q := 126) (by decide +kernel) ?_
        refine vx_iload (n := 5) (q := 128) (by decide +kernel) rfl ?_
        refine vx_ishl (q := 129) (by decide +kernel) ?_
        refine vx_ior (q := 130) (by decide +kernel) ?_
        refine vx_istore_n (n := 3) (q := 131) (lv' := [some (.ref v0), some (.int (vx_i v1)), some (.int (vx_i v2)), some (.int (vx_i (vx_or v3 (vx_shl 1 r8)))), some (.int (vx_i v4)), some (.int (vx_i r8))]) (by decide +kernel) rfl ?_
        refine vx_iload_n (n := 2) (q := 132) (by decide +kernel) rfl ?_
        refine vx_aload_n (n := 0) (q := 133) (by decide +kernel) rfl ?_
        refine vx_iload (n := 5) (q := 135) (by decide +kernel) rfl ?_
        refine vx_callI (i := .invokevirtual 75) (how := 3) (cm := 189) (np := 2) (q := 138) (args := [.ref v0, .int (vx_i r8)]) (rest := [.int (vx_i v2)]) (by decide +kernel) rfl rfl rfl (vx_w2 (w := 2) (ml := 2) rfl (by decide +kernel)) (vx_rcv (kd := 7) (vx_Tk hT17 ov0) (by decide +kernel)) H (fun r18 h18 hr18 hs18 H => ?_)
        have hT18 := vx_Tsh hT17 hs18
        replace H := H hT18
        refine vx_ior (q := 139) (by decide +kernel) ?_
        refine vx_istore_n (n := 2) (q := 140) (lv' := [some (.ref v0), some (.int (vx_i v1)), some (.int (vx_i (vx_or v2 r18))), some (.int (vx_i (vx_or v3 (vx_shl 1 r8)))), some (.int (vx_i v4)), some (.int (vx_i r8))]) (by decide +kernel) rfl ?_
        refine vx_iinc (n := 4) (m := 1) (x := v4) (q := 143) (lv' := [some (.ref v0), some (.int (vx_i v1)), some (.int (vx_i (vx_or v2 r18))), some (.int (vx_i (vx_or v3 (vx_shl 1 r8)))), some (.int (vx_i (v4 + 1))), some (.int (vx_i r8))]) (by decide +kernel) rfl rfl ?_
        refine vx_goto (off := (-101)) (q := 146) (t := 42) (by decide +kernel) ?_
        exact H
      · replace H := H.2 c9
        refine vx_goto (off := 56) (q := 93) (t := 146) (by decide +kernel) ?_
        refine vx_aload_n (n := 0) (q := 147) (by decide +kernel) rfl ?_
        refine vx_getI (idx := 42) (kd := 7) (s := 2) (fin := false) (q := 150) (by decide +kernel) (vx_Tk hT8 ov0) ?_
        refine vx_iconst (n := (-1)) (q := 151) (by decide +kernel) ?_
        refine vx_icmp_eq (off := 9) (q := 154) (t := 160) (by decide +kernel) (vx_rI_J h8 v0 2) (by decide) (fun c19 => ?_) (fun c19 => ?_)
        · replace H := H.1 c19
          refine vx_iload_n (n := 2) (q := 161) (by decide +kernel) rfl ?_
          obtain ⟨k20, H⟩ := H
          refine vx_retI (q := 162) (by decide +kernel) k20 ?_
          exact H
        · replace H := H.2 c19
          refine vx_aload_n (n := 0) (q := 155) (by decide +kernel) rfl ?_
          refine vx_bipush (n := 7) (q := 157) (by decide +kernel) ?_
          refine vx_putI (idx := 64) (kd := 7) (s := 15) (fin := false) (q := 160) (by decide +kernel) (vx_Tk hT8 ov0) (fun h21 e21 => ?_)
          have hT21 := vx_TJ hT8 e21
          replace H := H h21 e21 hT21
          refine vx_iload_n (n := 2) (q := 161) (by decide +kernel) rfl ?_
          obtain ⟨k22, H⟩ := H
          refine vx_retI (q := 162) (by decide +kernel) k22 ?_
          exact H
    · replace H := H.2 c7
      refine vx_aload_n (n := 0) (q := 60) (by decide +kernel) rfl ?_
      refine vx_getI (idx := 64) (kd := 7) (s := 15) (fin := false) (q := 63) (by decide +kernel) (vx_Tk hT ov0) ?_
      refine vx_aload_n (n := 0) (q := 64) (by decide +kernel) rfl ?_
      refine vx_getI (idx := 48) (kd := 7) (s := 6) (fin := false) (q := 67) (by decide +kernel) (vx_Tk hT ov0) ?_
      refine vx_icmp_ne (off := 9) (q := 70) (t := 76) (by decide +kernel) (vx_rI_J h v0 15) (vx_rI_J h v0 6) (fun c23 => ?_) (fun c23 => ?_)
      · replace H := H.1 c23
        refine vx_aload_n (n := 0) (q := 77) (by decide +kernel) rfl ?_
        refine vx_iload_n (n := 3) (q := 78) (by decide +kernel) rfl ?_
        refine vx_iload_n (n := 2) (q := 79) (by decide +kernel) rfl ?_
        refine vx_callI (i := .invokevirtual 67) (how := 3) (cm := 186) (np := 3) (q := 82) (args := [.ref v0, .int (vx_i v3), .int (vx_i v2)]) (rest := []) (by decide +kernel) rfl rfl rfl (vx_w2 (w := 3) (ml := 5) rfl (by decide +kernel)) (vx_rcv (kd := 7) (vx_Tk hT ov0) (by decide +kernel)) H (fun r24 h24 hr24 hs24 H => ?_)
        have hT24 := vx_Tsh hT hs24
        replace H := H hT24
        refine vx_istore (n := 5) (q := 84) (lv' := [some (.ref v0), some (.int (vx_i v1)), some (.int (vx_i v2)), some (.int (vx_i v3)), some (.int (vx_i v4)), some (.int (vx_i r24))]) (by decide +kernel) rfl ?_
        refine vx_iload (n := 5) (q := 86) (by decide +kernel) rfl ?_
        refine vx_iconst (n := (-1)) (q := 87) (by decide +kernel) ?_
        refine vx_icmp_ne (off := 6) (q := 90) (t := 93) (by decide +kernel) hr24 (by decide) (fun c25 => ?_) (fun c25 => ?_)
        · replace H := H.1 c25
          refine vx_aload_n (n := 0) (q := 94) (by decide +kernel) rfl ?_
          refine vx_getR (b := vx_r v0 12) (idx := 28) (kd := 7) (s := 12) (fin := true) (q := 97) (by decide +kernel) (vx_Tk hT24 ov0) (vx_Tr hT24 (kd := 7) ov0 (by decide +kernel) (vx_f7_12 ov0).1) ?_
          refine vx_iload (n := 4) (q := 99) (by decide +kernel) rfl ?_
          refine vx_iload (n := 5) (q := 101) (by decide +kernel) rfl ?_
          obtain ⟨k26, H⟩ := H
          refine vx_iastore (z := 6) (q := 102) (by decide +kernel) (vx_Tk hT24 (vx_f7_12 ov0).2.1) (vx_Tz hT24 ⟨(vx_f7_12 ov0).2.1.1, (vx_f7_12 ov0).2.2⟩) (vx_ix k26 (by decide)) (fun h27 e27 => ?_)
          have hT27 := vx_TJ hT24 e27
          replace H := H h27 e27 hT27
          refine vx_aload_n (n := 0) (q := 103) (by decide +kernel) rfl ?_
          refine vx_getR (b := vx_r v0 13) (idx := 31) (kd := 7) (s := 13) (fin := true) (q := 106) (by decide +kernel) (vx_Tk hT27 ov0) (vx_Tr hT27 (kd := 7) ov0 (by decide +kernel) (vx_f7_13 ov0).1) ?_
          refine vx_iload (n := 4) (q := 108) (by decide +kernel) rfl ?_
          refine vx_iload_n (n := 2) (q := 109) (by decide +kernel) rfl ?_
          obtain ⟨k28, H⟩ := H
          refine vx_iastore (z := 6) (q := 110) (by decide +kernel) (vx_Tk hT27 (vx_f7_13 ov0).2.1) (vx_Tz hT27 ⟨(vx_f7_13 ov0).2.1.1, (vx_f7_13 ov0).2.2⟩) (vx_ix k28 (by decide)) (fun h29 e29 => ?_)
          have hT29 := vx_TJ hT27 e29
          replace H := H h29 e29 hT29
          refine vx_aload_n (n := 0) (q := 111) (by decide +kernel) rfl ?_
          refine vx_getR (b := vx_r v0 14) (idx := 34) (kd := 7) (s := 14) (fin := true) (q := 114) (by decide +kernel) (vx_Tk hT29 ov0) (vx_Tr hT29 (kd := 7) ov0 (by decide +kernel) (vx_f7_14 ov0).1) ?_
          refine vx_iload (n := 4) (q := 116) (by decide +kernel) rfl ?_
          refine vx_aload_n (n := 0) (q := 117) (by decide +kernel) rfl ?_
          refine vx_iload (n := 5) (q := 119) (by decide +kernel) rfl ?_
          refine vx_iload_n (n := 2) (q := 120) (by decide +kernel) rfl ?_
          refine vx_callI (i := .invokevirtual 71) (how := 3) (cm := 188) (np := 3) (q := 123) (args := [.ref v0, .int (vx_i r24), .int (vx_i v2)]) (rest := [.int (vx_i v4), .ref (vx_r v0 14)]) (by decide +kernel) rfl rfl rfl (vx_w2 (w := 3) (ml := 4) rfl (by decide +kernel)) (vx_rcv (kd := 7) (vx_Tk hT29 ov0) (by decide +kernel)) H (fun r30 h30 hr30 hs30 H => ?_)
          have hT30 := vx_Tsh hT29 hs30
          replace H := H hT30
          obtain ⟨k31, H⟩ := H
          obtain ⟨k32, H⟩ := H
          refine vx_zastore (z := 6) (q := 124) (by decide +kernel) (vx_Tk hT30 (vx_f7_14 ov0).2.1) (vx_Tz hT30 ⟨(vx_f7_14 ov0).2.1.1, (vx_f7_14 ov0).2.2⟩) (vx_ix k31 (by decide)) k32 (fun h33 e33 => ?_)
          have hT33 := vx_TJ hT30 e33
          replace H := H h33 e33 hT33
          refine vx_iload_n (n := 3) (q := 125) (by decide +kernel) rfl ?_
          refine vx_iconst (n := 1) (q := 126) (by decide +kernel) ?_
          refine vx_iload (n := 5) (q := 128) (by decide +kernel) rfl ?_
          refine vx_ishl (q := 129) (by decide +kernel) ?_
          refine vx_ior (q := 130) (by decide +kernel) ?_
          refine vx_istore_n (n := 3) (q := 131) (lv' := [some (.ref v0), some (.int (vx_i v1)), some (.int (vx_i v2)), some (.int (vx_i (vx_or v3 (vx_shl 1 r24)))), some (.int (vx_i v4)), some (.int (vx_i r24))]) (by decide +kernel) rfl ?_
          refine vx_iload_n (n := 2) (q := 132) (by decide +kernel) rfl ?_
          refine vx_aload_n (n := 0) (q := 133) (by decide +kernel) rfl ?_
          refine vx_iload (n := 5) (q := 135) (by decide +kernel) rfl ?_
          refine vx_callI (i := .invokevirtual 75) (how := 3) (cm := 189) (np := 2) (q := 138) (args := [.ref v0, .int (vx_i r24)]) (rest := [.int (vx_i v2)]) (by decide +kernel) rfl rfl rfl (vx_w2 (w := 2) (ml := 2) rfl (by decide +kernel)) (vx_rcv (kd := 7) (vx_Tk hT33 ov0) (by decide +kernel)) H (fun r34 h34 hr34 hs34 H => ?_)
          have hT34 := vx_Tsh hT33 hs34
          replace H := H hT34
          refine vx_ior (q := 139) (by decide +kernel) ?_
          refine vx_istore_n (n := 2) (q := 140) (lv' := [some (.ref v0), some (.int (vx_i v1)), some (.int (vx_i (vx_or v2 r34))), some (.int (vx_i (vx_or v3 (vx_shl 1 r24)))), some (.int (vx_i v4)), some (.int (vx_i r24))]) (by decide +kernel) rfl ?_
          refine vx_iinc (n := 4) (m := 1) (x := v4) (q := 143) (lv' := [some (.ref v0), some (.int (vx_i v1)), some (.int (vx_i (vx_or v2 r34))), some (.int (vx_i (vx_or v3 (vx_shl 1 r24)))), some (.int (vx_i (v4 + 1))), some (.int (vx_i r24))]) (by decide +kernel) rfl rfl ?_
          refine vx_goto (off := (-101)) (q := 146) (t := 42) (by decide +kernel) ?_
          exact H
        · replace H := H.2 c25
          refine vx_goto (off := 56) (q := 93) (t := 146) (by decide +kernel) ?_
          refine vx_aload_n (n := 0) (q := 147) (by decide +kernel) rfl ?_
          refine vx_getI (idx := 42) (kd := 7) (s := 2) (fin := false) (q := 150) (by decide +kernel) (vx_Tk hT24 ov0) ?_
          refine vx_iconst (n := (-1)) (q := 151) (by decide +kernel) ?_
          refine vx_icmp_eq (off := 9) (q := 154) (t := 160) (by decide +kernel) (vx_rI_J h24 v0 2) (by decide) (fun c35 => ?_) (fun c35 => ?_)
          · replace H := H.1 c35
            refine vx_iload_n (n := 2) (q := 161) (by decide +kernel) rfl ?_
            obtain ⟨k36, H⟩ := H
            refine vx_retI (q := 162) (by decide +kernel) k36 ?_
            exact H
          · replace H := H.2 c35
            refine vx_aload_n (n := 0) (q := 155) (by decide +kernel) rfl ?_
            refine vx_bipush (n := 7) (q := 157) (by decide +kernel) ?_
            refine vx_putI (idx := 64) (kd := 7) (s := 15) (fin := false) (q := 160) (by decide +kernel) (vx_Tk hT24 ov0) (fun h37 e37 => ?_)
            have hT37 := vx_TJ hT24 e37
            replace H := H h37 e37 hT37
            refine vx_iload_n (n := 2) (q := 161) (by decide +kernel) rfl ?_
            obtain ⟨k38, H⟩ := H
            refine vx_retI (q := 162) (by decide +kernel) k38 ?_
            exact H
      · replace H := H.2 c23
        refine vx_aload_n (n := 0) (q := 71) (by decide +kernel) rfl ?_
        refine vx_iload (n := 4) (q := 73) (by decide +kernel) rfl ?_
        refine vx_putI (idx := 64) (kd := 7) (s := 15) (fin := false) (q := 76) (by decide +kernel) (vx_Tk hT ov0) (fun h39 e39 => ?_)
        have hT39 := vx_TJ hT e39
        replace H := H h39 e39 hT39
        refine vx_aload_n (n := 0) (q := 77) (by decide +kernel) rfl ?_
        refine vx_iload_n (n := 3) (q := 78) (by decide +kernel) rfl ?_
        refine vx_iload_n (n := 2) (q := 79) (by decide +kernel) rfl ?_
        refine vx_callI (i := .invokevirtual 67) (how := 3) (cm := 186) (np := 3) (q := 82) (args := [.ref v0, .int (vx_i v3), .int (vx_i v2)]) (rest := []) (by decide +kernel) rfl rfl rfl (vx_w2 (w := 3) (ml := 5) rfl (by decide +kernel)) (vx_rcv (kd := 7) (vx_Tk hT39 ov0) (by decide +kernel)) H (fun r40 h40 hr40 hs40 H => ?_)
        have hT40 := vx_Tsh hT39 hs40
        replace H := H hT40
        refine vx_istore (n := 5) (q := 84) (lv' := [some (.ref v0), some (.int (vx_i v1)), some (.int (vx_i v2)), some (.int (vx_i v3)), some (.int (vx_i v4)), some (.int (vx_i r40))]) (by decide +kernel) rfl ?_
        refine vx_iload (n := 5) (q := 86) (by decide +kernel) rfl ?_
        refine vx_iconst (n := (-1)) (q := 87) (by decide +kernel) ?_
        refine vx_icmp_ne (off := 6) (q := 90) (t := 93) (by decide +kernel) hr40 (by decide) (fun c41 => ?_) (fun c41 => ?_)
        · replace H := H.1 c41
          refine vx_aload_n (n := 0) (q := 94) (by decide +kernel) rfl ?_
          refine vx_getR (b := vx_r v0 12) (idx := 28) (kd := 7) (s := 12) (fin := true) (q := 97) (by decide +kernel) (vx_Tk hT40 ov0) (vx_Tr hT40 (kd := 7) ov0 (by decide +kernel) (vx_f7_12 ov0).1) ?_
          refine vx_iload (n := 4) (q := 99) (by decide +kernel) rfl ?_
          refine vx_iload (n := 5) (q := 101) (by decide +kernel) rfl ?_
          obtain ⟨k42, H⟩ := H
          refine vx_iastore (z := 6) (q := 102) (by decide +kernel) (vx_Tk hT40 (vx_f7_12 ov0).2.1) (vx_Tz hT40 ⟨(vx_f7_12 ov0).2.1.1, (vx_f7_12 ov0).2.2⟩) (vx_ix k42 (by decide)) (fun h43 e43 => ?_)
          have hT43 := vx_TJ hT40 e43
          replace H := H h43 e43 hT43
          refine vx_aload_n (n := 0) (q := 103) (by decide +kernel) rfl ?_
          refine vx_getR (b := vx_r v0 13) (idx := 31) (kd := 7) (s := 13) (fin := true) (q := 106) (by decide +kernel) (vx_Tk hT43 ov0) (vx_Tr hT43 (kd := 7) ov0 (by decide +kernel) (vx_f7_13 ov0).1) ?_
          refine vx_iload (n := 4) (q := 108) (by decide +kernel) rfl ?_
          refine vx_iload_n (n := 2) (q := 109) (by decide +kernel) rfl ?_
          obtain ⟨k44, H⟩ := H
          refine vx_iastore (z := 6) (q := 110) (by decide +kernel) (vx_Tk hT43 (vx_f7_13 ov0).2.1) (vx_Tz hT43 ⟨(vx_f7_13 ov0).2.1.1, (vx_f7_13 ov0).2.2⟩) (vx_ix k44 (by decide)) (fun h45 e45 => ?_)
          have hT45 := vx_TJ hT43 e45
          replace H := H h45 e45 hT45
          refine vx_aload_n (n := 0) (q := 111) (by decide +kernel) rfl ?_
          refine vx_getR (b := vx_r v0 14) (idx := 34) (kd := 7) (s := 14) (fin := true) (q := 114) (by decide +kernel) (vx_Tk hT45 ov0) (vx_Tr hT45 (kd := 7) ov0 (by decide +kernel) (vx_f7_14 ov0).1) ?_
          refine vx_iload (n := 4) (q := 116) (by decide +kernel) rfl ?_
          refine vx_aload_n (n := 0) (q := 117) (by decide +kernel) rfl ?_
          refine vx_iload (n := 5) (q := 119) (by decide +kernel) rfl ?_
          refine vx_iload_n (n := 2) (q := 120) (by decide +kernel) rfl ?_
          refine vx_callI (i := .invokevirtual 71) (how := 3) (cm := 188) (np := 3) (q := 123) (args := [.ref v0, .int (vx_i r40), .int (vx_i v2)]) (rest := [.int (vx_i v4), .ref (vx_r v0 14)]) (by decide +kernel) rfl rfl rfl (vx_w2 (w := 3) (ml := 4) rfl (by decide +kernel)) (vx_rcv (kd := 7) (vx_Tk hT45 ov0) (by decide +kernel)) H (fun r46 h46 hr46 hs46 H => ?_)
          have hT46 := vx_Tsh hT45 hs46
          replace H := H hT46
          obtain ⟨k47, H⟩ := H
          obtain ⟨k48, H⟩ := H
          refine vx_zastore (z := 6) (q := 124) (by decide +kernel) (vx_Tk hT46 (vx_f7_14 ov0).2.1) (vx_Tz hT46 ⟨(vx_f7_14 ov0).2.1.1, (vx_f7_14 ov0).2.2⟩) (vx_ix k47 (by decide)) k48 (fun h49 e49 => ?_)
          have hT49 := vx_TJ hT46 e49
          replace H := H h49 e49 hT49
          refine vx_iload_n (n := 3) (q := 125) (by decide +kernel) rfl ?_
          refine vx_iconst (n := 1) (q := 126) (by decide +kernel) ?_
          refine vx_iload (n := 5) (q := 128) (by decide +kernel) rfl ?_
          refine vx_ishl (q := 129) (by decide +kernel) ?_
          refine vx_ior (q := 130) (by decide +kernel) ?_
          refine vx_istore_n (n := 3) (q := 131) (lv' := [some (.ref v0), some (.int (vx_i v1)), some (.int (vx_i v2)), some (.int (vx_i (vx_or v3 (vx_shl 1 r40)))), some (.int (vx_i v4)), some (.int (vx_i r40))]) (by decide +kernel) rfl ?_
          refine vx_iload_n (n := 2) (q := 132) (by decide +kernel) rfl ?_
          refine vx_aload_n (n := 0) (q := 133) (by decide +kernel) rfl ?_
          refine vx_iload (n := 5) (q := 135) (by decide +kernel) rfl ?_
          refine vx_callI (i := .invokevirtual 75) (how := 3) (cm := 189) (np := 2) (q := 138) (args := [.ref v0, .int (vx_i r40)]) (rest := [.int (vx_i v2)]) (by decide +kernel) rfl rfl rfl (vx_w2 (w := 2) (ml := 2) rfl (by decide +kernel)) (vx_rcv (kd := 7) (vx_Tk hT49 ov0) (by decide +kernel)) H (fun r50 h50 hr50 hs50 H => ?_)
          have hT50 := vx_Tsh hT49 hs50
          replace H := H hT50
          refine vx_ior (q := 139) (by decide +kernel) ?_
          refine vx_istore_n (n := 2) (q := 140) (lv' := [some (.ref v0), some (.int (vx_i v1)), some (.int (vx_i (vx_or v2 r50))), some (.int (vx_i (vx_or v3 (vx_shl 1 r40)))), some (.int (vx_i v4)), some (.int (vx_i r40))]) (by decide +kernel) rfl ?_
          refine vx_iinc (n := 4) (m := 1) (x := v4) (q := 143) (lv' := [some (.ref v0), some (.int (vx_i v1)), some (.int (vx_i (vx_or v2 r50))), some (.int (vx_i (vx_or v3 (vx_shl 1 r40)))), some (.int (vx_i (v4 + 1))), some (.int (vx_i r40))]) (by decide +kernel) rfl rfl ?_
          refine vx_goto (off := (-101)) (q := 146) (t := 42) (by decide +kernel) ?_
          exact H
        · replace H := H.2 c41
          refine vx_goto (off := 56) (q := 93) (t := 146) (by decide +kernel) ?_
          refine vx_aload_n (n := 0) (q := 147) (by decide +kernel) rfl ?_
          refine vx_getI (idx := 42) (kd := 7) (s := 2) (fin := false) (q := 150) (by decide +kernel) (vx_Tk hT40 ov0) ?_
          refine vx_iconst (n := (-1)) (q := 151) (by decide +kernel) ?_
          refine vx_icmp_eq (off := 9) (q := 154) (t := 160) (by decide +kernel) (vx_rI_J h40 v0 2) (by decide) (fun c51 => ?_) (fun c51 => ?_)
          · replace H := H.1 c51
            refine vx_iload_n (n := 2) (q := 161) (by decide +kernel) rfl ?_
            obtain ⟨k52, H⟩ := H
            refine vx_retI (q := 162) (by decide +kernel) k52 ?_
            exact H
          · replace H := H.2 c51
            refine vx_aload_n (n := 0) (q := 155) (by decide +kernel) rfl ?_
            refine vx_bipush (n := 7) (q := 157) (by decide +kernel) ?_
            refine vx_putI (idx := 64) (kd := 7) (s := 15) (fin := false) (q := 160) (by decide +kernel) (vx_Tk hT40 ov0) (fun h53 e53 => ?_)
            have hT53 := vx_TJ hT40 e53
            replace H := H h53 e53 hT53
            refine vx_iload_n (n := 2) (q := 161) (by decide +kernel) rfl ?_
            obtain ⟨k54, H⟩ := H
            refine vx_retI (q := 162) (by decide +kernel) k54 ?_
            exact H
-- RuleHouse$Rule.nextLiteral(II)I
theorem vg_186 {d : Nat} {h : ve_H} {P : Int → ve_H → Prop} {a0 : Nat} (o0 : vx_o 1 625 7 a0) {x1 : Int} {x2 : Int} (hT : vx_T 1 625 h) (H : vx_W (d + 1) 186 10 [some (.ref a0), some (.int (vx_i x1)), some (.int (vx_i x2)), some (.int (vx_i ((-1)))), some (.int (vx_i ((vx_J h a0 6) - 1)))] [] h (vx_RI P)) : vx_CI (d + 1) 186 [.ref a0, .int (vx_i x1), .int (vx_i x2)] h P := by
  refine vx_enter (ml := 5) (by decide +kernel) ?_
  show vx_W _ _ 0 [some (.ref a0), some (.int (vx_i x1)), some (.int (vx_i x2)), none, none] [] h _
  refine vx_iconst (n := (-1)) (q := 1) (by decide +kernel) ?_
  refine vx_istore_n (n := 3) (q := 2) (lv' := [some (.ref a0), some (.int (vx_i x1)), some (.int (vx_i x2)), some (.int (vx_i ((-1)))), none]) (by decide +kernel) rfl ?_
  refine vx_aload_n (n := 0) (q := 3) (by decide +kernel) rfl ?_
  refine vx_getI (idx := 48) (kd := 7) (s := 6) (fin := false) (q := 6) (by decide +kernel) (vx_Tk hT o0) ?_
  refine vx_iconst (n := 1) (q := 7) (by decide +kernel) ?_
  refine vx_isub (q := 8) (by decide +kernel) ?_
  refine vx_istore (n := 4) (q := 10) (lv' := [some (.ref a0), some (.int (vx_i x1)), some (.int (vx_i x2)), some (.int (vx_i ((-1)))), some (.int (vx_i ((vx_J h a0 6) - 1)))]) (by decide +kernel) rfl ?_
  exact H
theorem vg_186_10 {d : Nat} {h : ve_H} {P : Int → ve_H → Prop} {v0 : Nat} (ov0 : vx_o 1 625 7 v0) {v1 : Int} {v2 : Int} {v3 : Int} {v4 : Int} (hT : vx_T 1 625 h) (H : (vx_rI v4) ∧ ((v4 < 0 → (vx_rI v3) ∧ P v3 h) ∧ (0 ≤ v4 → (((vx_and v1 (vx_shl 1 v4)) = 0 → (0 ≤ v4 ∧ v4 < 6) ∧ (((vx_J h (vx_r v0 8) v4.toNat) ≠ 14 → vx_CI d 187 [.ref v0, .int (vx_i v4), .int (vx_i v2)] h (fun r7 h7 => vx_T 1 625 h7 → ((r7 = 0 → vx_W (d + 1) 186 10 [some (.ref v0), some (.int (vx_i v1)), some (.int (vx_i v2)), some (.int (vx_i v3)), some (.int (vx_i (v4 + (-1))))] [] h7 (vx_RI P)) ∧ (r7 ≠ 0 → P v4 h7)))) ∧ ((vx_J h (vx_r v0 8) v4.toNat) = 14 → vx_W (d + 1) 186 10 [some (.ref v0), some (.int (vx_i v1)), some (.int (vx_i v2)), some (.int (vx_i v4)), some (.int (vx_i (v4 + (-1))))] [] h (vx_RI P)))) ∧ ((vx_and v1 (vx_shl 1 v4)) ≠ 0 → vx_W (d + 1) 186 10 [some (.ref v0), some (.int (vx_i v1)), some (.int (vx_i v2)), some (.int (vx_i v3)), some (.int (vx_i (v4 + (-1))))] [] h (vx_RI P)))))) : vx_W (d + 1) 186 10 [some (.ref v0), some (.int (vx_i v1)), some (.int (vx_i v2)), some (.int (vx_i v3)), some (.int (vx_i v4))] [] h (vx_RI P) := by
  refine vx_iload (n := 4) (q := 12) (by decide +kernel) rfl ?_
  obtain ⟨k1, H⟩ := H
  refine vx_if0_lt (off := 52) (q := 15) (t := 64) (by decide +kernel) k1 (fun c2 => ?_) (fun c2 => ?_)
  · replace H := H.1 c2
    refine vx_iload_n (n := 3) (q := 65) (by decide +kernel) rfl ?_
    obtain ⟨k3, H⟩ := H
    refine vx_retI (q := 66) (by decide +kernel) k3 ?_
    exact H
  · replace H := H.2 c2
    refine vx_iload_n (n := 1) (q := 16) (by decide +kernel) rfl ?_
    refine vx_iconst (n := 1) (q := 17) (by decide +kernel) ?_
    refine vx_iload (n := 4) (q := 19) (by decide +kernel) rfl ?_
    refine vx_ishl (q := 20) (by decide +kernel) ?_
    refine vx_iand (q := 21) (by decide +kernel) ?_
    refine vx_if0_eq (off := 6) (q := 24) (t := 27) (by decide +kernel) (vx_rI_toInt _) (fun c4 => ?_) (fun c4 => ?_)
    · replace H := H.1 c4
      refine vx_aload_n (n := 0) (q := 28) (by decide +kernel) rfl ?_
      refine vx_getR (b := vx_r v0 8) (idx := 15) (kd := 7) (s := 8) (fin := true) (q := 31) (by decide +kernel) (vx_Tk hT ov0) (vx_Tr hT (kd := 7) ov0 (by decide +kernel) (vx_f7_8 ov0).1) ?_
      refine vx_iload (n := 4) (q := 33) (by decide +kernel) rfl ?_
      obtain ⟨k5, H⟩ := H
      refine vx_iaload (z := 6) (q := 34) (by decide +kernel) (vx_Tk hT (vx_f7_8 ov0).2.1) (vx_Tz hT ⟨(vx_f7_8 ov0).2.1.1, (vx_f7_8 ov0).2.2⟩) (vx_ix k5 (by decide)) ?_
      refine vx_bipush (n := 14) (q := 36) (by decide +kernel) ?_
      refine vx_icmp_ne (off := 9) (q := 39) (t := 45) (by decide +kernel) (vx_rI_J h (vx_r v0 8) v4.toNat) (by decide) (fun c6 => ?_) (fun c6 => ?_)
      · replace H := H.1 c6
        refine vx_aload_n (n := 0) (q := 46) (by decide +kernel) rfl ?_
        refine vx_iload (n := 4) (q := 48) (by decide +kernel) rfl ?_
        refine vx_iload_n (n := 2) (q := 49) (by decide +kernel) rfl ?_
        refine vx_callI (i := .invokevirtual 79) (how := 3) (cm := 187) (np := 3) (q := 52) (args := [.ref v0, .int (vx_i v4), .int (vx_i v2)]) (rest := []) (by decide +kernel) rfl rfl rfl (vx_w2 (w := 3) (ml := 4) rfl (by decide +kernel)) (vx_rcv (kd := 7) (vx_Tk hT ov0) (by decide +kernel)) H (fun r7 h7 hr7 hs7 H => ?_)
        have hT7 := vx_Tsh hT hs7
        replace H := H hT7
        refine vx_if0_eq (off := 6) (q := 55) (t := 58) (by decide +kernel) hr7 (fun c8 => ?_) (fun c8 => ?_)
        · replace H := H.1 c8
          refine vx_iinc (n := 4) (m := (-1)) (x := v4) (q := 61) (lv' := [some (.ref v0), some (.int (vx_i v1)), some (.int (vx_i v2)), some (.int (vx_i v3)), some (.int (vx_i (v4 + (-1))))]) (by decide +kernel) rfl rfl ?_
          refine vx_goto (off := (-51)) (q := 64) (t := 10) (by decide +kernel) ?_
          exact H
        · replace H := H.2 c8
          refine vx_iload (n := 4) (q := 57) (by decide +kernel) rfl ?_
          refine vx_retI (q := 58) (by decide +kernel) k1 ?_
          exact H
      · replace H := H.2 c6
        refine vx_iload (n := 4) (q := 41) (by decide +kernel) rfl ?_
        refine vx_istore_n (n := 3) (q := 42) (lv' := [some (.ref v0), some (.int (vx_i v1)), some (.int (vx_i v2)), some (.int (vx_i v4)), some (.int (vx_i v4))]) (by decide +kernel) rfl ?_
        refine vx_goto (off := 16) (q := 45) (t := 58) (by decide +kernel) ?_
        refine vx_iinc (n := 4) (m := (-1)) (x := v4) (q := 61) (lv' := [some (.ref v0), some (.int (vx_i v1)), some (.int (vx_i v2)), some (.int (vx_i v4)), some (.int (vx_i (v4 + (-1))))]) (by decide +kernel) rfl rfl ?_
        refine vx_goto (off := (-51)) (q := 64) (t := 10) (by decide +kernel) ?_
        exact H
    · replace H := H.2 c4
      refine vx_goto (off := 34) (q := 27) (t := 58) (by decide +kernel) ?_
      refine vx_iinc (n := 4) (m := (-1)) (x := v4) (q := 61) (lv' := [some (.ref v0), some (.int (vx_i v1)), some (.int (vx_i v2)), some (.int (vx_i v3)), some (.int (vx_i (v4 + (-1))))]) (by decide +kernel) rfl rfl ?_
      refine vx_goto (off := (-51)) (q := 64) (t := 10) (by decide +kernel) ?_
      exact H
-- RuleHouse$Rule.isReady(II)Z
theorem vg_187 {d : Nat} {h : ve_H} {P : Int → ve_H → Prop} {a0 : Nat} (o0 : vx_o 1 625 7 a0) {x1 : Int} {x2 : Int} (hT : vx_T 1 625 h) (H : (0 ≤ x1 ∧ x1 < 6) ∧ (((vx_J h (vx_r a0 8) x1.toNat) ≠ 61 → (0 ≤ x1 ∧ x1 < 6) ∧ (((vx_J h (vx_r a0 8) x1.toNat) ≠ 5 → vx_CI d 190 [.ref (vx_r a0 11), .int (vx_i (x1 * 4)), .int (vx_i 4)] h (fun r5 h5 => vx_T 1 625 h5 → (((vx_and r5 (vx_xor x2 ((-1)))) ≠ 0 → P 0 h5) ∧ ((vx_and r5 (vx_xor x2 ((-1)))) = 0 → P 1 h5)))) ∧ ((vx_J h (vx_r a0 8) x1.toNat) = 5 → vx_CI d 190 [.ref (vx_r a0 11), .int (vx_i ((x1 * 4) + 1)), .int (vx_i 2)] h (fun r7 h7 => vx_T 1 625 h7 → (((vx_and r7 (vx_xor x2 ((-1)))) ≠ 0 → P 0 h7) ∧ ((vx_and r7 (vx_xor x2 ((-1)))) = 0 → P 1 h7)))))) ∧ ((vx_J h (vx_r a0 8) x1.toNat) = 61 → vx_CI d 190 [.ref (vx_r a0 11), .int (vx_i (x1 * 4)), .int (vx_i 1)] h (fun r9 h9 => vx_T 1 625 h9 → (((vx_and r9 (vx_xor x2 ((-1)))) = 0 → P 1 h9) ∧ ((vx_and r9 (vx_xor x2 ((-1)))) ≠ 0 → vx_CI d 190 [.ref (vx_r a0 11), .int (vx_i ((x1 * 4) + 1)), .int (vx_i 1)] h9 (fun r11 h11 => vx_T 1 625 h11 → (((vx_and r11 (vx_xor x2 ((-1)))) ≠ 0 → P 0 h11) ∧ ((vx_and r11 (vx_xor x2 ((-1)))) = 0 → P 1 h11))))))))) : vx_CI (d + 1) 187 [.ref a0, .int (vx_i x1), .int (vx_i x2)] h P := by
  refine vx_enter (ml := 4) (by decide +kernel) ?_
  show vx_W _ _ 0 [some (.ref a0), some (.int (vx_i x1)), some (.int (vx_i x2)), none] [] h _
  refine vx_iload_n (n := 1) (q := 1) (by decide +kernel) rfl ?_
  refine vx_iconst (n := 4) (q := 2) (by decide +kernel) ?_
  refine vx_imul (q := 3) (by decide +kernel) ?_
  refine vx_istore_n (n := 3) (q := 4) (lv' := [some (.ref a0), some (.int (vx_i x1)), some (.int (vx_i x2)), some (.int (vx_i (x1 * 4)))]) (by decide +kernel) rfl ?_
  refine vx_aload_n (n := 0) (q := 5) (by decide +kernel) rfl ?_
  refine vx_getR (b := vx_r a0 8) (idx := 15) (kd := 7) (s := 8) (fin := true) (q := 8) (by decide +kernel) (vx_Tk hT o0) (vx_Tr hT (kd := 7) o0 (by decide +kernel) (vx_f7_8 o0).1) ?_
  refine vx_iload_n (n := 1) (q := 9) (by decide +kernel) rfl ?_
  obtain ⟨k1, H⟩ := H
  refine vx_iaload (z := 6) (q := 10) (by decide +kernel) (vx_Tk hT (vx_f7_8 o0).2.1) (vx_Tz hT ⟨(vx_f7_8 o0).2.1.1, (vx_f7_8 o0).2.2⟩) (vx_ix k1 (by decide)) ?_
  refine vx_bipush (n := 61) (q := 12) (by decide +kernel) ?_
  refine vx_icmp_ne (off := 43) (q := 15) (t := 55) (by decide +kernel) (vx_rI_J h (vx_r a0 8) x1.toNat) (by decide) (fun c2 => ?_) (fun c2 => ?_)
  · replace H := H.1 c2
    refine vx_aload_n (n := 0) (q := 56) (by decide +kernel) rfl ?_
    refine vx_getR (b := vx_r a0 8) (idx := 15) (kd := 7) (s := 8) (fin := true) (q := 59) (by decide +kernel) (vx_Tk hT o0) (vx_Tr hT (kd := 7) o0 (by decide +kernel) (vx_f7_8 o0).1) ?_
    refine vx_iload_n (n := 1) (q := 60) (by decide +kernel) rfl ?_
    obtain ⟨k3, H⟩ := H
    refine vx_iaload (z := 6) (q := 61) (by decide +kernel) (vx_Tk hT (vx_f7_8 o0).2.1) (vx_Tz hT ⟨(vx_f7_8 o0).2.1.1, (vx_f7_8 o0).2.2⟩) (vx_ix k3 (by decide)) ?_
    refine vx_iconst (n := 5) (q := 62) (by decide +kernel) ?_
    refine vx_icmp_ne (off := 27) (q := 65) (t := 89) (by decide +kernel) (vx_rI_J h (vx_r a0 8) x1.toNat) (by decide) (fun c4 => ?_) (fun c4 => ?_)
    · replace H := H.1 c4
      refine vx_aload_n (n := 0) (q := 90) (by decide +kernel) rfl ?_
      refine vx_getR (b := vx_r a0 11) (idx := 25) (kd := 7) (s := 11) (fin := true) (q := 93) (by decide +kernel) (vx_Tk hT o0) (vx_Tr hT (kd := 7) o0 (by decide +kernel) (vx_f7_11 o0).1) ?_
      refine vx_iload_n (n := 3) (q := 94) (by decide +kernel) rfl ?_
      refine vx_iconst (n := 4) (q := 95) (by decide +kernel) ?_
      refine vx_callI (i := .invokestatic 60) (how := 4) (cm := 190) (np := 3) (q := 98) (args := [.ref (vx_r a0 11), .int (vx_i (x1 * 4)), .int (vx_i 4)]) (rest := []) (by decide +kernel) rfl rfl rfl (vx_w2 (w := 3) (ml := 5) rfl (by decide +kernel)) rfl H (fun r5 h5 hr5 hs5 H => ?_)
      have hT5 := vx_Tsh hT hs5
      replace H := H hT5
      refine vx_iload_n (n := 2) (q := 99) (by decide +kernel) rfl ?_
      refine vx_iconst (n := (-1)) (q := 100) (by decide +kernel) ?_
      refine vx_ixor (q := 101) (by decide +kernel) ?_
      refine vx_iand (q := 102) (by decide +kernel) ?_
      refine vx_if0_ne (off := 7) (q := 105) (t := 109) (by decide +kernel) (vx_rI_toInt _) (fun c6 => ?_) (fun c6 => ?_)
      · replace H := H.1 c6
        refine vx_iconst (n := 0) (q := 110) (by decide +kernel) ?_
        refine vx_retZ (q := 111) (by decide +kernel) (Or.inl rfl) ?_
        exact H
      · replace H := H.2 c6
        refine vx_iconst (n := 1) (q := 106) (by decide +kernel) ?_
        refine vx_goto (off := 4) (q := 109) (t := 110) (by decide +kernel) ?_
        refine vx_retZ (q := 111) (by decide +kernel) (Or.inr rfl) ?_
        exact H
    · replace H := H.2 c4
      refine vx_aload_n (n := 0) (q := 66) (by decide +kernel) rfl ?_
      refine vx_getR (b := vx_r a0 11) (idx := 25) (kd := 7) (s := 11) (fin := true) (q := 69) (by decide +kernel) (vx_Tk hT o0) (vx_Tr hT (kd := 7) o0 (by decide +kernel) (vx_f7_11 o0).1) ?_
      refine vx_iload_n (n := 3) (q := 70) (by decide +kernel) rfl ?_
      refine vx_iconst (n := 1) (q := 71) (by decide +kernel) ?_
      refine vx_iadd (q := 72) (by decide +kernel) ?_
      refine vx_iconst (n := 2) (q := 73) (by decide +kernel) ?_
      refine vx_callI (i := .invokestatic 60) (how := 4) (cm := 190) (np := 3) (q := 76) (args := [.ref (vx_r a0 11), .int (vx_i ((x1 * 4) + 1)), .int (vx_i 2)]) (rest := []) (by decide +kernel) rfl rfl rfl (vx_w2 (w := 3) (ml := 5) rfl (by decide +kernel)) rfl H (fun r7 h7 hr7 hs7 H => ?_)
      have hT7 := vx_Tsh hT hs7
      replace H := H hT7
      refine vx_iload_n (n := 2) (q := 77) (by decide +kernel) rfl ?_
      refine vx_iconst (n := (-1)) (q := 78) (by decide +kernel) ?_
      refine vx_ixor (q := 79) (by decide +kernel) ?_
      refine vx_iand (q := 80) (by decide +kernel) ?_
      refine vx_if0_ne (off := 7) (q := 83) (t := 87) (by decide +kernel) (vx_rI_toInt _) (fun c8 => ?_) (fun c8 => ?_)
      · replace H := H.1 c8
        refine vx_iconst (n := 0) (q := 88) (by decide +kernel) ?_
        refine vx_retZ (q := 89) (by decide +kernel) (Or.inl rfl) ?_
        exact H
      · replace H := H.2 c8
        refine vx_iconst (n := 1) (q := 84) (by decide +kernel) ?_
        refine vx_goto (off := 4) (q := 87) (t := 88) (by decide +kernel) ?_
        refine vx_retZ (q := 89) (by decide +kernel) (Or.inr rfl) ?_
        exact H
  · replace H := H.2 c2
    refine vx_aload_n (n := 0) (q := 16) (by decide +kernel) rfl ?_
    refine vx_getR (b := vx_r a0 11) (idx := 25) (kd := 7) (s := 11) (fin := true) (q := 19) (by decide +kernel) (vx_Tk hT o0) (vx_Tr hT (kd := 7) o0 (by decide +kernel) (vx_f7_11 o0).1) ?_
    refine vx_iload_n (n := 3) (q := 20) (by decide +kernel) rfl ?_
    refine vx_iconst (n := 1) (q := 21) (by decide +kernel) ?_
    refine vx_callI (i := .invokestatic 60) (how := 4) (cm := 190) (np := 3) (q := 24) (args := [.ref (vx_r a0 11), .int (vx_i (x1 * 4)), .int (vx_i 1)]) (rest := []) (by decide +kernel) rfl rfl rfl (vx_w2 (w := 3) (ml := 5) rfl (by decide +kernel)) rfl H (fun r9 h9 hr9 hs9 H => ?_)
    have hT9 := vx_Tsh hT hs9
    replace H := H hT9
    refine vx_iload_n (n := 2) (q := 25) (by decide +kernel) rfl ?_
    refine vx_iconst (n := (-1)) (q := 26) (by decide +kernel) ?_
    refine vx_ixor (q := 27) (by decide +kernel) ?_
    refine vx_iand (q := 28) (by decide +kernel) ?_
    refine vx_if0_eq (off := 21) (q := 31) (t := 49) (by decide +kernel) (vx_rI_toInt _) (fun c10 => ?_) (fun c10 => ?_)
    · replace H := H.1 c10
      refine vx_iconst (n := 1) (q := 50) (by decide +kernel) ?_
      refine vx_goto (off := 4) (q := 53) (t := 54) (by decide +kernel) ?_
      refine vx_retZ (q := 55) (by decide +kernel) (Or.inr rfl) ?_
      exact H
    · replace H := H.2 c10
      refine vx_aload_n (n := 0) (q := 32) (by decide +kernel) rfl ?_
      refine vx_getR (b := vx_r a0 11) (idx := 25) (kd := 7) (s := 11) (fin := true) (q := 35) (by decide +kernel) (vx_Tk hT9 o0) (vx_Tr hT9 (kd := 7) o0 (by decide +kernel) (vx_f7_11 o0).1) ?_
      refine vx_iload_n (n := 3) (q := 36) (by decide +kernel) rfl ?_
      refine vx_iconst (n := 1) (q := 37) (by decide +kernel) ?_
      refine vx_iadd (q := 38) (by decide +kernel) ?_
      refine vx_iconst (n := 1) (q := 39) (by decide +kernel) ?_
      refine vx_callI (i := .invokestatic 60) (how := 4) (cm := 190) (np := 3) (q := 42) (args := [.ref (vx_r a0 11), .int (vx_i ((x1 * 4) + 1)), .int (vx_i 1)]) (rest := []) (by decide +kernel) rfl rfl rfl (vx_w2 (w := 3) (ml := 5) rfl (by decide +kernel)) rfl H (fun r11 h11 hr11 hs11 H => ?_)
      have hT11 := vx_Tsh hT9 hs11
      replace H := H hT11
      refine vx_iload_n (n := 2) (q := 43) (by decide +kernel) rfl ?_
      refine vx_iconst (n := (-1)) (q := 44) (by decide +kernel) ?_
      refine vx_ixor (q := 45) (by decide +kernel) ?_
      refine vx_iand (q := 46) (by decide +kernel) ?_
      refine vx_if0_ne (off := 7) (q := 49) (t := 53) (by decide +kernel) (vx_rI_toInt _) (fun c12 => ?_) (fun c12 => ?_)
      · replace H := H.1 c12
        refine vx_iconst (n := 0) (q := 54) (by decide +kernel) ?_
        refine vx_retZ (q := 55) (by decide +kernel) (Or.inl rfl) ?_
        exact H
      · replace H := H.2 c12
        refine vx_iconst (n := 1) (q := 50) (by decide +kernel) ?_
        refine vx_goto (off := 4) (q := 53) (t := 54) (by decide +kernel) ?_
        refine vx_retZ (q := 55) (by decide +kernel) (Or.inr rfl) ?_
        exact H
-- RuleHouse$Rule.isKnown(II)Z
theorem vg_188 {d : Nat} {h : ve_H} {P : Int → ve_H → Prop} {a0 : Nat} (o0 : vx_o 1 625 7 a0) {x1 : Int} {x2 : Int} (hT : vx_T 1 625 h) (H : vx_W (d + 1) 188 2 [some (.ref a0), some (.int (vx_i x1)), some (.int (vx_i x2)), some (.int (vx_i 0))] [] h (vx_RI P)) : vx_CI (d + 1) 188 [.ref a0, .int (vx_i x1), .int (vx_i x2)] h P := by
  refine vx_enter (ml := 4) (by decide +kernel) ?_
  show vx_W _ _ 0 [some (.ref a0), some (.int (vx_i x1)), some (.int (vx_i x2)), none] [] h _
  refine vx_iconst (n := 0) (q := 1) (by decide +kernel) ?_
  refine vx_istore_n (n := 3) (q := 2) (lv' := [some (.ref a0), some (.int (vx_i x1)), some (.int (vx_i x2)), some (.int (vx_i 0))]) (by decide +kernel) rfl ?_
  exact H
theorem vg_188_2 {d : Nat} {h : ve_H} {P : Int → ve_H → Prop} {v0 : Nat} (ov0 : vx_o 1 625 7 v0) {v1 : Int} {v2 : Int} {v3 : Int} (hT : vx_T 1 625 h) (H : (vx_rI v3) ∧ ((4 ≤ v3 → vx_CI d 189 [.ref v0, .int (vx_i v1)] h (fun r3 h3 => vx_T 1 625 h3 → (((vx_and r3 (vx_xor v2 ((-1)))) ≠ 0 → P 0 h3) ∧ ((vx_and r3 (vx_xor v2 ((-1)))) = 0 → P 1 h3)))) ∧ (v3 < 4 → (0 ≤ ((v1 * 4) + v3) ∧ ((v1 * 4) + v3) < 24) ∧ (((vx_K h (vx_r v0 11) ((v1 * 4) + v3).toNat) ≠ 288230376151711744 → vx_W (d + 1) 188 2 [some (.ref v0), some (.int (vx_i v1)), some (.int (vx_i v2)), some (.int (vx_i (v3 + 1)))] [] h (vx_RI P)) ∧ ((vx_K h (vx_r v0 11) ((v1 * 4) + v3).toNat) = 288230376151711744 → P 0 h))))) : vx_W (d + 1) 188 2 [some (.ref v0), some (.int (vx_i v1)), some (.int (vx_i v2)), some (.int (vx_i v3))] [] h (vx_RI P) := by
  refine vx_iload_n (n := 3) (q := 3) (by decide +kernel) rfl ?_
  refine vx_iconst (n := 4) (q := 4) (by decide +kernel) ?_
  obtain ⟨k1, H⟩ := H
  refine vx_icmp_ge (off := 28) (q := 7) (t := 32) (by decide +kernel) k1 (by decide) (fun c2 => ?_) (fun c2 => ?_)
  · replace H := H.1 c2
    refine vx_aload_n (n := 0) (q := 33) (by decide +kernel) rfl ?_
    refine vx_iload_n (n := 1) (q := 34) (by decide +kernel) rfl ?_
    refine vx_callI (i := .invokevirtual 75) (how := 3) (cm := 189) (np := 2) (q := 37) (args := [.ref v0, .int (vx_i v1)]) (rest := []) (by decide +kernel) rfl rfl rfl (vx_w2 (w := 2) (ml := 2) rfl (by decide +kernel)) (vx_rcv (kd := 7) (vx_Tk hT ov0) (by decide +kernel)) H (fun r3 h3 hr3 hs3 H => ?_)
    have hT3 := vx_Tsh hT hs3
    replace H := H hT3
    refine vx_iload_n (n := 2) (q := 38) (by decide +kernel) rfl ?_
    refine vx_iconst (n := (-1)) (q := 39) (by decide +kernel) ?_
    refine vx_ixor (q := 40) (by decide +kernel) ?_
    refine vx_iand (q := 41) (by decide +kernel) ?_
    refine vx_if0_ne (off := 7) (q := 44) (t := 48) (by decide +kernel) (vx_rI_toInt _) (fun c4 => ?_) (fun c4 => ?_)
    · replace H := H.1 c4
      refine vx_iconst (n := 0) (q := 49) (by decide +kernel) ?_
      refine vx_retZ (q := 50) (by decide +kernel) (Or.inl rfl) ?_
      exact H
    · replace H := H.2 c4
      refine vx_iconst (n := 1) (q := 45) (by decide +kernel) ?_
      refine vx_goto (off := 4) (q := 48) (t := 49) (by decide +kernel) ?_
      refine vx_retZ (q := 50) (by decide +kernel) (Or.inr rfl) ?_
      exact H
  · replace H := H.2 c2
    refine vx_aload_n (n := 0) (q := 8) (by decide +kernel) rfl ?_
    refine vx_getR (b := vx_r v0 11) (idx := 25) (kd := 7) (s := 11) (fin := true) (q := 11) (by decide +kernel) (vx_Tk hT ov0) (vx_Tr hT (kd := 7) ov0 (by decide +kernel) (vx_f7_11 ov0).1) ?_
    refine vx_iload_n (n := 1) (q := 12) (by decide +kernel) rfl ?_
    refine vx_iconst (n := 4) (q := 13) (by decide +kernel) ?_
    refine vx_imul (q := 14) (by decide +kernel) ?_
    refine vx_iload_n (n := 3) (q := 15) (by decide +kernel) rfl ?_
    refine vx_iadd (q := 16) (by decide +kernel) ?_
    obtain ⟨k5, H⟩ := H
    refine vx_laload (z := 24) (q := 17) (by decide +kernel) (vx_Tk hT (vx_f7_11 ov0).2.1) (vx_Tz hT ⟨(vx_f7_11 ov0).2.1.1, (vx_f7_11 ov0).2.2⟩) (vx_ix k5 (by decide)) ?_
    refine vx_ldc (idx := 82) (v := 288230376151711744) (m := 288230376151711744) (q := 20) (by decide +kernel) ?_
    refine vx_lc_ne (off := 5) (p := 21) (q := 24) (t := 26) (by decide +kernel) (vx_rL_K h (vx_r v0 11) ((v1 * 4) + v3).toNat) (by decide) (fun c6 => ?_) (fun c6 => ?_)
    · replace H := H.1 c6
      refine vx_iinc (n := 3) (m := 1) (x := v3) (q := 29) (lv' := [some (.ref v0), some (.int (vx_i v1)), some (.int (vx_i v2)), some (.int (vx_i (v3 + 1)))]) (by decide +kernel) rfl rfl ?_
      refine vx_goto (off := (-27)) (q := 32) (t := 2) (by decide +kernel) ?_
      exact H
    · replace H := H.2 c6
      refine vx_iconst (n := 0) (q := 25) (by decide +kernel) ?_
      refine vx_retZ (q := 26) (by decide +kernel) (Or.inl rfl) ?_
      exact H
-- RuleHouse$Rule.variablesOf(I)I
theorem vg_189 {d : Nat} {h : ve_H} {P : Int → ve_H → Prop} {a0 : Nat} (o0 : vx_o 1 625 7 a0) {x1 : Int} (hT : vx_T 1 625 h) (H : vx_CI d 190 [.ref (vx_r a0 11), .int (vx_i (x1 * 4)), .int (vx_i 4)] h (fun r1 h1 => vx_T 1 625 h1 → P r1 h1)) : vx_CI (d + 1) 189 [.ref a0, .int (vx_i x1)] h P := by
  refine vx_enter (ml := 2) (by decide +kernel) ?_
  show vx_W _ _ 0 [some (.ref a0), some (.int (vx_i x1))] [] h _
  refine vx_aload_n (n := 0) (q := 1) (by decide +kernel) rfl ?_
  refine vx_getR (b := vx_r a0 11) (idx := 25) (kd := 7) (s := 11) (fin := true) (q := 4) (by decide +kernel) (vx_Tk hT o0) (vx_Tr hT (kd := 7) o0 (by decide +kernel) (vx_f7_11 o0).1) ?_
  refine vx_iload_n (n := 1) (q := 5) (by decide +kernel) rfl ?_
  refine vx_iconst (n := 4) (q := 6) (by decide +kernel) ?_
  refine vx_imul (q := 7) (by decide +kernel) ?_
  refine vx_iconst (n := 4) (q := 8) (by decide +kernel) ?_
  refine vx_callI (i := .invokestatic 60) (how := 4) (cm := 190) (np := 3) (q := 11) (args := [.ref (vx_r a0 11), .int (vx_i (x1 * 4)), .int (vx_i 4)]) (rest := []) (by decide +kernel) rfl rfl rfl (vx_w2 (w := 3) (ml := 5) rfl (by decide +kernel)) rfl H (fun r1 h1 hr1 hs1 H => ?_)
  have hT1 := vx_Tsh hT hs1
  replace H := H hT1
  refine vx_retI (q := 12) (by decide +kernel) hr1 ?_
  exact H
-- RuleHouse$Rule.variablesIn([JII)I
theorem vg_190 {d : Nat} {h : ve_H} {P : Int → ve_H → Prop} {a1 : Nat} (o1 : vx_o 1 625 21 a1) {x2 : Int} {x3 : Int} (hT : vx_T 1 625 h) (H : vx_W (d + 1) 190 5 [some (.ref a1), some (.int (vx_i x2)), some (.int (vx_i x3)), some (.int (vx_i 0)), some (.int (vx_i x2))] [] h (vx_RI P)) : vx_CI (d + 1) 190 [.ref a1, .int (vx_i x2), .int (vx_i x3)] h P := by
  refine vx_enter (ml := 5) (by decide +kernel) ?_
  show vx_W _ _ 0 [some (.ref a1), some (.int (vx_i x2)), some (.int (vx_i x3)), none, none] [] h _
  refine vx_iconst (n := 0) (q := 1) (by decide +kernel) ?_
  refine vx_istore_n (n := 3) (q := 2) (lv' := [some (.ref a1), some (.int (vx_i x2)), some (.int (vx_i x3)), some (.int (vx_i 0)), none]) (by decide +kernel) rfl ?_
  refine vx_iload_n (n := 1) (q := 3) (by decide +kernel) rfl ?_
  refine vx_istore (n := 4) (q := 5) (lv' := [some (.ref a1), some (.int (vx_i x2)), some (.int (vx_i x3)), some (.int (vx_i 0)), some (.int (vx_i x2))]) (by decide +kernel) rfl ?_
  exact H
theorem vg_190_5 {d : Nat} {h : ve_H} {P : Int → ve_H → Prop} {v0 : Nat} (ov0 : vx_o 1 625 21 v0) {v1 : Int} {v2 : Int} {v3 : Int} {v4 : Int} (hT : vx_T 1 625 h) (H : (vx_rI v4) ∧ (vx_rI (v1 + v2)) ∧ (((v1 + v2) ≤ v4 → (vx_rI v3) ∧ P v3 h) ∧ (v4 < (v1 + v2) → (vx_rI (((vx_za v0) : Nat))) ∧ (((((vx_za v0) : Nat)) ≤ v4 → (vx_rI v3) ∧ P v3 h) ∧ (v4 < (((vx_za v0) : Nat)) → (0 ≤ v4 ∧ v4 < (vx_za v0)) ∧ vx_CI d 17 [.long (vx_l (vx_K h v0 v4.toNat))] h (fun r9 h9 => vx_T 1 625 h9 → ((r9 = 0 → vx_W (d + 1) 190 5 [some (.ref v0), some (.int (vx_i v1)), some (.int (vx_i v2)), some (.int (vx_i v3)), some (.int (vx_i (v4 + 1)))] [] h9 (vx_RI P)) ∧ (r9 ≠ 0 → (0 ≤ v4 ∧ v4 < (vx_za v0)) ∧ vx_W (d + 1) 190 5 [some (.ref v0), some (.int (vx_i v1)), some (.int (vx_i v2)), some (.int (vx_i (vx_or v3 (vx_shl 1 ((vx_K h9 v0 v4.toNat) - 144115188075855872))))), some (.int (vx_i (v4 + 1)))] [] h9 (vx_RI P))))))))) : vx_W (d + 1) 190 5 [some (.ref v0), some (.int (vx_i v1)), some (.int (vx_i v2)), some (.int (vx_i v3)), some (.int (vx_i v4))] [] h (vx_RI P) := by
  refine vx_iload (n := 4) (q := 7) (by decide +kernel) rfl ?_
  refine vx_iload_n (n := 1) (q := 8) (by decide +kernel) rfl ?_
  refine vx_iload_n (n := 2) (q := 9) (by decide +kernel) rfl ?_
  refine vx_iadd (q := 10) (by decide +kernel) ?_
  obtain ⟨k1, H⟩ := H
  obtain ⟨k2, H⟩ := H
  refine vx_icmp_ge (off := 40) (q := 13) (t := 50) (by decide +kernel) k1 k2 (fun c3 => ?_) (fun c3 => ?_)
  · replace H := H.1 c3
    refine vx_iload_n (n := 3) (q := 51) (by decide +kernel) rfl ?_
    obtain ⟨k4, H⟩ := H
    refine vx_retI (q := 52) (by decide +kernel) k4 ?_
    exact H
  · replace H := H.2 c3
    refine vx_iload (n := 4) (q := 15) (by decide +kernel) rfl ?_
    refine vx_aload_n (n := 0) (q := 16) (by decide +kernel) rfl ?_
    refine vx_alen (q := 17) (by decide +kernel) (by rw [(vx_Tk hT (kd := 21) ov0)]; decide) ?_
    rw [(vx_Tz hT ⟨ov0.1, rfl⟩)]
    obtain ⟨k5, H⟩ := H
    refine vx_icmp_ge (off := 33) (q := 20) (t := 50) (by decide +kernel) k1 k5 (fun c6 => ?_) (fun c6 => ?_)
    · replace H := H.1 c6
      refine vx_iload_n (n := 3) (q := 51) (by decide +kernel) rfl ?_
      obtain ⟨k7, H⟩ := H
      refine vx_retI (q := 52) (by decide +kernel) k7 ?_
      exact H
    · replace H := H.2 c6
      refine vx_aload_n (n := 0) (q := 21) (by decide +kernel) rfl ?_
      refine vx_iload (n := 4) (q := 23) (by decide +kernel) rfl ?_
      obtain ⟨k8, H⟩ := H
      refine vx_laload (z := (vx_za v0)) (q := 24) (by decide +kernel) (vx_Tk hT ov0) (vx_Tz hT ⟨ov0.1, rfl⟩) (vx_ix k8 (vx_za_lt _)) ?_
      refine vx_callI (i := .invokestatic 84) (how := 14) (cm := 17) (np := 1) (q := 27) (args := [.long (vx_l (vx_K h v0 v4.toNat))]) (rest := []) (by decide +kernel) rfl rfl rfl (vx_w2 (w := 2) (ml := 2) rfl (by decide +kernel)) rfl H (fun r9 h9 hr9 hs9 H => ?_)
      have hT9 := vx_Tsh hT hs9
      replace H := H hT9
      refine vx_if0_eq (off := 17) (q := 30) (t := 44) (by decide +kernel) hr9 (fun c10 => ?_) (fun c10 => ?_)
      · replace H := H.1 c10
        refine vx_iinc (n := 4) (m := 1) (x := v4) (q := 47) (lv' := [some (.ref v0), some (.int (vx_i v1)), some (.int (vx_i v2)), some (.int (vx_i v3)), some (.int (vx_i (v4 + 1)))]) (by decide +kernel) rfl rfl ?_
        refine vx_goto (off := (-42)) (q := 50) (t := 5) (by decide +kernel) ?_
        exact H
      · replace H := H.2 c10
        refine vx_iload_n (n := 3) (q := 31) (by decide +kernel) rfl ?_
        refine vx_iconst (n := 1) (q := 32) (by decide +kernel) ?_
        refine vx_aload_n (n := 0) (q := 33) (by decide +kernel) rfl ?_
        refine vx_iload (n := 4) (q := 35) (by decide +kernel) rfl ?_
        obtain ⟨k11, H⟩ := H
        refine vx_laload (z := (vx_za v0)) (q := 36) (by decide +kernel) (vx_Tk hT9 ov0) (vx_Tz hT9 ⟨ov0.1, rfl⟩) (vx_ix k11 (vx_za_lt _)) ?_
        refine vx_ldc (idx := 88) (v := 144115188075855872) (m := 144115188075855872) (q := 39) (by decide +kernel) ?_
        refine vx_lsub (q := 40) (by decide +kernel) ?_
        refine vx_l2i (q := 41) (by decide +kernel) ?_
        refine vx_ishl (q := 42) (by decide +kernel) ?_
        refine vx_ior (q := 43) (by decide +kernel) ?_
        refine vx_istore_n (n := 3) (q := 44) (lv' := [some (.ref v0), some (.int (vx_i v1)), some (.int (vx_i v2)), some (.int (vx_i (vx_or v3 (vx_shl 1 ((vx_K h9 v0 v4.toNat) - 144115188075855872))))), some (.int (vx_i v4))]) (by decide +kernel) rfl ?_
        refine vx_iinc (n := 4) (m := 1) (x := v4) (q := 47) (lv' := [some (.ref v0), some (.int (vx_i v1)), some (.int (vx_i v2)), some (.int (vx_i (vx_or v3 (vx_shl 1 ((vx_K h9 v0 v4.toNat) - 144115188075855872))))), some (.int (vx_i (v4 + 1)))]) (by decide +kernel) rfl rfl ?_
        refine vx_goto (off := (-42)) (q := 50) (t := 5) (by decide +kernel) ?_
        exact H
