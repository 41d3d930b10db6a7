/-! Printed by my own program (wip/whole/gen_seg.py): walks of methods 135-143 -/
-- RuleHouse$Program.clear()V
theorem vg_135 {d : Nat} {h : ve_H} {P : ve_H → Prop} {a0 : Nat} (o0 : vx_o 1 625 5 a0) (hT : vx_T 1 625 h) (H : (∀ h1, h1 = vx_sJ h a0 6 0 → vx_T 1 625 h1 → (∀ h2, h2 = vx_sJ h1 a0 7 0 → vx_T 1 625 h2 → vx_CV d 172 [.ref (vx_r a0 5)] h2 (fun h3 => vx_T 1 625 h3 → P h3)))) : vx_CV (d + 1) 135 [.ref a0] h P := by
  refine vx_enter (ml := 1) (by decide +kernel) ?_
  show vx_W _ _ 0 [some (.ref a0)] [] h _
  refine vx_aload_n (n := 0) (q := 1) (by decide +kernel) rfl ?_
  refine vx_iconst (n := 0) (q := 2) (by decide +kernel) ?_
  refine vx_putI (idx := 41) (kd := 5) (s := 6) (fin := false) (q := 5) (by decide +kernel) (vx_Tk hT o0) (fun h1 e1 => ?_)
  have hT1 := vx_TJ hT e1
  replace H := H h1 e1 hT1
  refine vx_aload_n (n := 0) (q := 6) (by decide +kernel) rfl ?_
  refine vx_iconst (n := 0) (q := 7) (by decide +kernel) ?_
  refine vx_putI (idx := 45) (kd := 5) (s := 7) (fin := false) (q := 10) (by decide +kernel) (vx_Tk hT1 o0) (fun h2 e2 => ?_)
  have hT2 := vx_TJ hT1 e2
  replace H := H h2 e2 hT2
  refine vx_aload_n (n := 0) (q := 11) (by decide +kernel) rfl ?_
  refine vx_getR (b := vx_r a0 5) (idx := 36) (kd := 5) (s := 5) (fin := true) (q := 14) (by decide +kernel) (vx_Tk hT2 o0) (vx_Tr hT2 (kd := 5) o0 (by decide +kernel) (vx_f5_5 o0).1) ?_
  refine vx_callV (i := .invokevirtual 48) (how := 3) (cm := 172) (np := 1) (q := 17) (args := [.ref (vx_r a0 5)]) (rest := []) (by decide +kernel) rfl rfl rfl (vx_w2 (w := 1) (ml := 1) rfl (by decide +kernel)) (vx_rcv (kd := 6) (vx_Tk hT2 (vx_f5_5 o0).2) (by decide +kernel)) H (fun h3 hs3 H => ?_)
  have hT3 := vx_Tsh hT2 hs3
  replace H := H hT3
  refine vx_retV (q := 18) (by decide +kernel) ?_
  exact H
-- RuleHouse$Program.predicateNamed(J)I
theorem vg_136 {d : Nat} {h : ve_H} {P : Int → ve_H → Prop} {a0 : Nat} (o0 : vx_o 1 625 5 a0) {x1 : Int} (hT : vx_T 1 625 h) (H : vx_W d 136 2 [some (.ref a0), some (.long (vx_l x1)), none, some (.int (vx_i 0))] [] h (vx_RI P)) : vx_CI d 136 [.ref a0, .long (vx_l x1)] h P := by
  refine vx_enter (ml := 4) (by decide +kernel) ?_
  show vx_W _ _ 0 [some (.ref a0), some (.long (vx_l x1)), none, none] [] h _
  refine vx_iconst (n := 0) (q := 1) (by decide +kernel) ?_
  refine vx_istore_n (n := 3) (q := 2) (lv' := [some (.ref a0), some (.long (vx_l x1)), none, some (.int (vx_i 0))]) (by decide +kernel) rfl ?_
  exact H
theorem vg_136_2 {d : Nat} {h : ve_H} {P : Int → ve_H → Prop} {v0 : Nat} (ov0 : vx_o 1 625 5 v0) {v1 : Int} {v3 : Int} (hT : vx_T 1 625 h) (H : (vx_rI v3) ∧ (((vx_J h v0 6) ≤ v3 → P ((-1)) h) ∧ (v3 < (vx_J h v0 6) → (0 ≤ v3 ∧ v3 < 16) ∧ (vx_rL v1) ∧ (((vx_K h (vx_r v0 0) v3.toNat) ≠ v1 → vx_W d 136 2 [some (.ref v0), some (.long (vx_l v1)), none, some (.int (vx_i (v3 + 1)))] [] h (vx_RI P)) ∧ ((vx_K h (vx_r v0 0) v3.toNat) = v1 → P v3 h))))) : vx_W d 136 2 [some (.ref v0), some (.long (vx_l v1)), none, some (.int (vx_i v3))] [] h (vx_RI P) := by
  refine vx_iload_n (n := 3) (q := 3) (by decide +kernel) rfl ?_
  refine vx_aload_n (n := 0) (q := 4) (by decide +kernel) rfl ?_
  refine vx_getI (idx := 41) (kd := 5) (s := 6) (fin := false) (q := 7) (by decide +kernel) (vx_Tk hT ov0) ?_
  obtain ⟨k1, H⟩ := H
  refine vx_icmp_ge (off := 22) (q := 10) (t := 29) (by decide +kernel) k1 (vx_rI_J h v0 6) (fun c2 => ?_) (fun c2 => ?_)
  · replace H := H.1 c2
    refine vx_iconst (n := (-1)) (q := 30) (by decide +kernel) ?_
    refine vx_retI (q := 31) (by decide +kernel) (by decide) ?_
    exact H
  · replace H := H.2 c2
    refine vx_aload_n (n := 0) (q := 11) (by decide +kernel) rfl ?_
    refine vx_getR (b := vx_r v0 0) (idx := 9) (kd := 5) (s := 0) (fin := true) (q := 14) (by decide +kernel) (vx_Tk hT ov0) (vx_Tr hT (kd := 5) ov0 (by decide +kernel) (vx_f5_0 ov0).1) ?_
    refine vx_iload_n (n := 3) (q := 15) (by decide +kernel) rfl ?_
    obtain ⟨k3, H⟩ := H
    refine vx_laload (z := 16) (q := 16) (by decide +kernel) (vx_Tk hT (vx_f5_0 ov0).2.1) (vx_Tz hT ⟨(vx_f5_0 ov0).2.1.1, (vx_f5_0 ov0).2.2⟩) (vx_ix k3 (by decide)) ?_
    refine vx_lload_n (n := 1) (q := 17) (by decide +kernel) rfl ?_
    obtain ⟨k4, H⟩ := H
    refine vx_lc_ne (off := 5) (p := 18) (q := 21) (t := 23) (by decide +kernel) (vx_rL_K h (vx_r v0 0) v3.toNat) k4 (fun c5 => ?_) (fun c5 => ?_)
    · replace H := H.1 c5
      refine vx_iinc (n := 3) (m := 1) (x := v3) (q := 26) (lv' := [some (.ref v0), some (.long (vx_l v1)), none, some (.int (vx_i (v3 + 1)))]) (by decide +kernel) rfl rfl ?_
      refine vx_goto (off := (-24)) (q := 29) (t := 2) (by decide +kernel) ?_
      exact H
    · replace H := H.2 c5
      refine vx_iload_n (n := 3) (q := 22) (by decide +kernel) rfl ?_
      refine vx_retI (q := 23) (by decide +kernel) k1 ?_
      exact H
-- RuleHouse$Program.addPredicate(J)I
theorem vg_137 {d : Nat} {h : ve_H} {P : Int → ve_H → Prop} {a0 : Nat} (o0 : vx_o 1 625 5 a0) {x1 : Int} (hT : vx_T 1 625 h) (H : (((vx_J h a0 6) < 16 → (0 ≤ (vx_J h a0 6) ∧ (vx_J h a0 6) < 16) ∧ (∀ h3, h3 = vx_sK h (vx_r a0 0) (vx_J h a0 6).toNat x1 → vx_T 1 625 h3 → (0 ≤ (vx_J h3 a0 6) ∧ (vx_J h3 a0 6) < 16) ∧ (∀ h5, h5 = vx_sJ h3 (vx_r a0 1) (vx_J h3 a0 6).toNat 0 → vx_T 1 625 h5 → (∀ h6, h6 = vx_sJ h5 a0 6 ((vx_J h5 a0 6) + 1) → vx_T 1 625 h6 → (vx_rI ((vx_J h6 a0 6) - 1)) ∧ P ((vx_J h6 a0 6) - 1) h6)))) ∧ (16 ≤ (vx_J h a0 6) → P ((-1)) h))) : vx_CI d 137 [.ref a0, .long (vx_l x1)] h P := by
  refine vx_enter (ml := 3) (by decide +kernel) ?_
  show vx_W _ _ 0 [some (.ref a0), some (.long (vx_l x1)), none] [] h _
  refine vx_aload_n (n := 0) (q := 1) (by decide +kernel) rfl ?_
  refine vx_getI (idx := 41) (kd := 5) (s := 6) (fin := false) (q := 4) (by decide +kernel) (vx_Tk hT o0) ?_
  refine vx_bipush (n := 16) (q := 6) (by decide +kernel) ?_
  refine vx_icmp_lt (off := 5) (q := 9) (t := 11) (by decide +kernel) (vx_rI_J h a0 6) (by decide) (fun c1 => ?_) (fun c1 => ?_)
  · replace H := H.1 c1
    refine vx_aload_n (n := 0) (q := 12) (by decide +kernel) rfl ?_
    refine vx_getR (b := vx_r a0 0) (idx := 9) (kd := 5) (s := 0) (fin := true) (q := 15) (by decide +kernel) (vx_Tk hT o0) (vx_Tr hT (kd := 5) o0 (by decide +kernel) (vx_f5_0 o0).1) ?_
    refine vx_aload_n (n := 0) (q := 16) (by decide +kernel) rfl ?_
    refine vx_getI (idx := 41) (kd := 5) (s := 6) (fin := false) (q := 19) (by decide +kernel) (vx_Tk hT o0) ?_
    refine vx_lload_n (n := 1) (q := 20) (by decide +kernel) rfl ?_
    obtain ⟨k2, H⟩ := H
    refine vx_lastore (z := 16) (q := 21) (by decide +kernel) (vx_Tk hT (vx_f5_0 o0).2.1) (vx_Tz hT ⟨(vx_f5_0 o0).2.1.1, (vx_f5_0 o0).2.2⟩) (vx_ix k2 (by decide)) (fun h3 e3 => ?_)
    have hT3 := vx_TK hT e3
    replace H := H h3 e3 hT3
    refine vx_aload_n (n := 0) (q := 22) (by decide +kernel) rfl ?_
    refine vx_getR (b := vx_r a0 1) (idx := 15) (kd := 5) (s := 1) (fin := true) (q := 25) (by decide +kernel) (vx_Tk hT3 o0) (vx_Tr hT3 (kd := 5) o0 (by decide +kernel) (vx_f5_1 o0).1) ?_
    refine vx_aload_n (n := 0) (q := 26) (by decide +kernel) rfl ?_
    refine vx_getI (idx := 41) (kd := 5) (s := 6) (fin := false) (q := 29) (by decide +kernel) (vx_Tk hT3 o0) ?_
    refine vx_iconst (n := 0) (q := 30) (by decide +kernel) ?_
    obtain ⟨k4, H⟩ := H
    refine vx_iastore (z := 16) (q := 31) (by decide +kernel) (vx_Tk hT3 (vx_f5_1 o0).2.1) (vx_Tz hT3 ⟨(vx_f5_1 o0).2.1.1, (vx_f5_1 o0).2.2⟩) (vx_ix k4 (by decide)) (fun h5 e5 => ?_)
    have hT5 := vx_TJ hT3 e5
    replace H := H h5 e5 hT5
    refine vx_aload_n (n := 0) (q := 32) (by decide +kernel) rfl ?_
    refine vx_dupR (q := 33) (by decide +kernel) ?_
    refine vx_getI (idx := 41) (kd := 5) (s := 6) (fin := false) (q := 36) (by decide +kernel) (vx_Tk hT5 o0) ?_
    refine vx_iconst (n := 1) (q := 37) (by decide +kernel) ?_
    refine vx_iadd (q := 38) (by decide +kernel) ?_
    refine vx_putI (idx := 41) (kd := 5) (s := 6) (fin := false) (q := 41) (by decide +kernel) (vx_Tk hT5 o0) (fun h6 e6 => ?_)
    have hT6 := vx_TJ hT5 e6
    replace H := H h6 e6 hT6
    refine vx_aload_n (n := 0) (q := 42) (by decide +kernel) rfl ?_
    refine vx_getI (idx := 41) (kd := 5) (s := 6) (fin := false) (q := 45) (by decide +kernel) (vx_Tk hT6 o0) ?_
    refine vx_iconst (n := 1) (q := 46) (by decide +kernel) ?_
    refine vx_isub (q := 47) (by decide +kernel) ?_
    obtain ⟨k7, H⟩ := H
    refine vx_retI (q := 48) (by decide +kernel) k7 ?_
    exact H
  · replace H := H.2 c1
    refine vx_iconst (n := (-1)) (q := 10) (by decide +kernel) ?_
    refine vx_retI (q := 11) (by decide +kernel) (by decide) ?_
    exact H
-- RuleHouse$Program.rulesOf(I)I
theorem vg_138 {d : Nat} {h : ve_H} {P : Int → ve_H → Prop} {a0 : Nat} (o0 : vx_o 1 625 5 a0) {x1 : Int} (hT : vx_T 1 625 h) (H : vx_W d 138 4 [some (.ref a0), some (.int (vx_i x1)), some (.int (vx_i 0)), some (.int (vx_i 0))] [] h (vx_RI P)) : vx_CI d 138 [.ref a0, .int (vx_i x1)] h P := by
  refine vx_enter (ml := 4) (by decide +kernel) ?_
  show vx_W _ _ 0 [some (.ref a0), some (.int (vx_i x1)), none, none] [] h _
  refine vx_iconst (n := 0) (q := 1) (by decide +kernel) ?_
  refine vx_istore_n (n := 2) (q := 2) (lv' := [some (.ref a0), some (.int (vx_i x1)), some (.int (vx_i 0)), none]) (by decide +kernel) rfl ?_
  refine vx_iconst (n := 0) (q := 3) (by decide +kernel) ?_
  refine vx_istore_n (n := 3) (q := 4) (lv' := [some (.ref a0), some (.int (vx_i x1)), some (.int (vx_i 0)), some (.int (vx_i 0))]) (by decide +kernel) rfl ?_
  exact H
theorem vg_138_4 {d : Nat} {h : ve_H} {P : Int → ve_H → Prop} {v0 : Nat} (ov0 : vx_o 1 625 5 v0) {v1 : Int} {v2 : Int} {v3 : Int} (hT : vx_T 1 625 h) (H : (vx_rI v3) ∧ (((vx_J h v0 7) ≤ v3 → (vx_rI v2) ∧ P v2 h) ∧ (v3 < (vx_J h v0 7) → (0 ≤ v3 ∧ v3 < 31) ∧ (vx_rI v1) ∧ (((vx_J h (vx_r (vx_r v0 4) v3.toNat) 0) ≠ v1 → vx_W d 138 4 [some (.ref v0), some (.int (vx_i v1)), some (.int (vx_i v2)), some (.int (vx_i (v3 + 1)))] [] h (vx_RI P)) ∧ ((vx_J h (vx_r (vx_r v0 4) v3.toNat) 0) = v1 → vx_W d 138 4 [some (.ref v0), some (.int (vx_i v1)), some (.int (vx_i (v2 + 1))), some (.int (vx_i (v3 + 1)))] [] h (vx_RI P)))))) : vx_W d 138 4 [some (.ref v0), some (.int (vx_i v1)), some (.int (vx_i v2)), some (.int (vx_i v3))] [] h (vx_RI P) := by
  refine vx_iload_n (n := 3) (q := 5) (by decide +kernel) rfl ?_
  refine vx_aload_n (n := 0) (q := 6) (by decide +kernel) rfl ?_
  refine vx_getI (idx := 45) (kd := 5) (s := 7) (fin := false) (q := 9) (by decide +kernel) (vx_Tk hT ov0) ?_
  obtain ⟨k1, H⟩ := H
  refine vx_icmp_ge (off := 25) (q := 12) (t := 34) (by decide +kernel) k1 (vx_rI_J h v0 7) (fun c2 => ?_) (fun c2 => ?_)
  · replace H := H.1 c2
    refine vx_iload_n (n := 2) (q := 35) (by decide +kernel) rfl ?_
    obtain ⟨k3, H⟩ := H
    refine vx_retI (q := 36) (by decide +kernel) k3 ?_
    exact H
  · replace H := H.2 c2
    refine vx_aload_n (n := 0) (q := 13) (by decide +kernel) rfl ?_
    refine vx_getR (b := vx_r v0 4) (idx := 27) (kd := 5) (s := 4) (fin := true) (q := 16) (by decide +kernel) (vx_Tk hT ov0) (vx_Tr hT (kd := 5) ov0 (by decide +kernel) (vx_f5_4 ov0).1) ?_
    refine vx_iload_n (n := 3) (q := 17) (by decide +kernel) rfl ?_
    obtain ⟨k4, H⟩ := H
    refine vx_aaload (b := vx_r (vx_r v0 4) v3.toNat) (z := 31) (q := 18) (by decide +kernel) (vx_Tk hT (vx_f5_4 ov0).2.1) (vx_Tz hT ⟨(vx_f5_4 ov0).2.1.1, (vx_f5_4 ov0).2.2⟩) (vx_ix k4 (by decide)) (vx_Tr hT (kd := 24) (vx_f5_4 ov0).2.1 (vx_fz24 (vx_tn k4)) (vx_f24 (vx_f5_4 ov0).2.1 (vx_tn k4)).1) ?_
    refine vx_getI (idx := 51) (kd := 7) (s := 0) (fin := false) (q := 21) (by decide +kernel) (vx_Tk hT (vx_f24 (vx_f5_4 ov0).2.1 (vx_tn k4)).2) ?_
    refine vx_iload_n (n := 1) (q := 22) (by decide +kernel) rfl ?_
    obtain ⟨k5, H⟩ := H
    refine vx_icmp_ne (off := 6) (q := 25) (t := 28) (by decide +kernel) (vx_rI_J h (vx_r (vx_r v0 4) v3.toNat) 0) k5 (fun c6 => ?_) (fun c6 => ?_)
    · replace H := H.1 c6
      refine vx_iinc (n := 3) (m := 1) (x := v3) (q := 31) (lv' := [some (.ref v0), some (.int (vx_i v1)), some (.int (vx_i v2)), some (.int (vx_i (v3 + 1)))]) (by decide +kernel) rfl rfl ?_
      refine vx_goto (off := (-27)) (q := 34) (t := 4) (by decide +kernel) ?_
      exact H
    · replace H := H.2 c6
      refine vx_iinc (n := 2) (m := 1) (x := v2) (q := 28) (lv' := [some (.ref v0), some (.int (vx_i v1)), some (.int (vx_i (v2 + 1))), some (.int (vx_i v3))]) (by decide +kernel) rfl rfl ?_
      refine vx_iinc (n := 3) (m := 1) (x := v3) (q := 31) (lv' := [some (.ref v0), some (.int (vx_i v1)), some (.int (vx_i (v2 + 1))), some (.int (vx_i (v3 + 1)))]) (by decide +kernel) rfl rfl ?_
      refine vx_goto (off := (-27)) (q := 34) (t := 4) (by decide +kernel) ?_
      exact H
-- RuleHouse$Program.findHanging()V
theorem vg_139 {d : Nat} {h : ve_H} {P : ve_H → Prop} {a0 : Nat} (o0 : vx_o 1 625 5 a0) (hT : vx_T 1 625 h) (H : vx_CV d 217 [.ref (vx_r a0 3), .int (vx_i 0)] h (fun h1 => vx_T 1 625 h1 → vx_W (d + 1) 139 10 [some (.ref a0), some (.int (vx_i 0)), none] [] h1 (vx_RV P))) : vx_CV (d + 1) 139 [.ref a0] h P := by
  refine vx_enter (ml := 3) (by decide +kernel) ?_
  show vx_W _ _ 0 [some (.ref a0), none, none] [] h _
  refine vx_aload_n (n := 0) (q := 1) (by decide +kernel) rfl ?_
  refine vx_getR (b := vx_r a0 3) (idx := 22) (kd := 5) (s := 3) (fin := true) (q := 4) (by decide +kernel) (vx_Tk hT o0) (vx_Tr hT (kd := 5) o0 (by decide +kernel) (vx_f5_3 o0).1) ?_
  refine vx_iconst (n := 0) (q := 5) (by decide +kernel) ?_
  refine vx_callV (i := .invokestatic 54) (how := 4) (cm := 217) (np := 2) (q := 8) (args := [.ref (vx_r a0 3), .int (vx_i 0)]) (rest := []) (by decide +kernel) rfl rfl rfl (vx_w2 (w := 2) (ml := 4) rfl (by decide +kernel)) rfl H (fun h1 hs1 H => ?_)
  have hT1 := vx_Tsh hT hs1
  replace H := H hT1
  refine vx_iconst (n := 0) (q := 9) (by decide +kernel) ?_
  refine vx_istore_n (n := 1) (q := 10) (lv' := [some (.ref a0), some (.int (vx_i 0)), none]) (by decide +kernel) rfl ?_
  exact H
theorem vg_139_10 {d : Nat} {h : ve_H} {P : ve_H → Prop} {v0 : Nat} (ov0 : vx_o 1 625 5 v0) {v1 : Int} {v2 : Option Value} (hT : vx_T 1 625 h) (H : (vx_rI v1) ∧ (((vx_J h v0 7) ≤ v1 → vx_W (d + 1) 139 90 [some (.ref v0), some (.int (vx_i 0)), v2] [] h (vx_RV P)) ∧ (v1 < (vx_J h v0 7) → vx_W (d + 1) 139 20 [some (.ref v0), some (.int (vx_i v1)), some (.int (vx_i 0))] [] h (vx_RV P)))) : vx_W (d + 1) 139 10 [some (.ref v0), some (.int (vx_i v1)), v2] [] h (vx_RV P) := by
  refine vx_iload_n (n := 1) (q := 11) (by decide +kernel) rfl ?_
  refine vx_aload_n (n := 0) (q := 12) (by decide +kernel) rfl ?_
  refine vx_getI (idx := 45) (kd := 5) (s := 7) (fin := false) (q := 15) (by decide +kernel) (vx_Tk hT ov0) ?_
  obtain ⟨k1, H⟩ := H
  refine vx_icmp_ge (off := 73) (q := 18) (t := 88) (by decide +kernel) k1 (vx_rI_J h v0 7) (fun c2 => ?_) (fun c2 => ?_)
  · replace H := H.1 c2
    refine vx_iconst (n := 0) (q := 89) (by decide +kernel) ?_
    refine vx_istore_n (n := 1) (q := 90) (lv' := [some (.ref v0), some (.int (vx_i 0)), v2]) (by decide +kernel) rfl ?_
    exact H
  · replace H := H.2 c2
    refine vx_iconst (n := 0) (q := 19) (by decide +kernel) ?_
    refine vx_istore_n (n := 2) (q := 20) (lv' := [some (.ref v0), some (.int (vx_i v1)), some (.int (vx_i 0))]) (by decide +kernel) rfl ?_
    exact H
theorem vg_139_20 {d : Nat} {h : ve_H} {P : ve_H → Prop} {v0 : Nat} (ov0 : vx_o 1 625 5 v0) {v1 : Int} {v2 : Int} (hT : vx_T 1 625 h) (H : (0 ≤ v1 ∧ v1 < 31) ∧ (vx_rI v2) ∧ (((vx_J h (vx_r (vx_r v0 4) v1.toNat) 6) ≤ v2 → vx_W (d + 1) 139 10 [some (.ref v0), some (.int (vx_i (v1 + 1))), some (.int (vx_i v2))] [] h (vx_RV P)) ∧ (v2 < (vx_J h (vx_r (vx_r v0 4) v1.toNat) 6) → (0 ≤ v1 ∧ v1 < 31) ∧ vx_CI d 184 [.ref (vx_r (vx_r v0 4) v1.toNat), .int (vx_i v2)] h (fun r5 h5 => vx_T 1 625 h5 → ((r5 = 0 → vx_W (d + 1) 139 20 [some (.ref v0), some (.int (vx_i v1)), some (.int (vx_i (v2 + 1)))] [] h5 (vx_RV P)) ∧ (r5 ≠ 0 → (0 ≤ v1 ∧ v1 < 31) ∧ (0 ≤ (vx_J h5 (vx_r (vx_r v0 4) v1.toNat) 0) ∧ (vx_J h5 (vx_r (vx_r v0 4) v1.toNat) 0) < 16) ∧ (0 ≤ v1 ∧ v1 < 31) ∧ (0 ≤ v2 ∧ v2 < 6) ∧ (0 ≤ (vx_J h5 (vx_r (vx_r v0 4) v1.toNat) 0) ∧ (vx_J h5 (vx_r (vx_r v0 4) v1.toNat) 0) < 16) ∧ (∀ h12, h12 = vx_sJ h5 (vx_r v0 3) (vx_J h5 (vx_r (vx_r v0 4) v1.toNat) 0).toNat (vx_or (vx_J h5 (vx_r v0 3) (vx_J h5 (vx_r (vx_r v0 4) v1.toNat) 0).toNat) (vx_shl 1 (vx_J h5 (vx_r (vx_r (vx_r v0 4) v1.toNat) 9) v2.toNat))) → vx_T 1 625 h12 → vx_W (d + 1) 139 20 [some (.ref v0), some (.int (vx_i v1)), some (.int (vx_i (v2 + 1)))] [] h12 (vx_RV P)))))))) : vx_W (d + 1) 139 20 [some (.ref v0), some (.int (vx_i v1)), some (.int (vx_i v2))] [] h (vx_RV P) := by
  refine vx_iload_n (n := 2) (q := 21) (by decide +kernel) rfl ?_
  refine vx_aload_n (n := 0) (q := 22) (by decide +kernel) rfl ?_
  refine vx_getR (b := vx_r v0 4) (idx := 27) (kd := 5) (s := 4) (fin := true) (q := 25) (by decide +kernel) (vx_Tk hT ov0) (vx_Tr hT (kd := 5) ov0 (by decide +kernel) (vx_f5_4 ov0).1) ?_
  refine vx_iload_n (n := 1) (q := 26) (by decide +kernel) rfl ?_
  obtain ⟨k1, H⟩ := H
  refine vx_aaload (b := vx_r (vx_r v0 4) v1.toNat) (z := 31) (q := 27) (by decide +kernel) (vx_Tk hT (vx_f5_4 ov0).2.1) (vx_Tz hT ⟨(vx_f5_4 ov0).2.1.1, (vx_f5_4 ov0).2.2⟩) (vx_ix k1 (by decide)) (vx_Tr hT (kd := 24) (vx_f5_4 ov0).2.1 (vx_fz24 (vx_tn k1)) (vx_f24 (vx_f5_4 ov0).2.1 (vx_tn k1)).1) ?_
  refine vx_getI (idx := 60) (kd := 7) (s := 6) (fin := false) (q := 30) (by decide +kernel) (vx_Tk hT (vx_f24 (vx_f5_4 ov0).2.1 (vx_tn k1)).2) ?_
  obtain ⟨k2, H⟩ := H
  refine vx_icmp_ge (off := 52) (q := 33) (t := 82) (by decide +kernel) k2 (vx_rI_J h (vx_r (vx_r v0 4) v1.toNat) 6) (fun c3 => ?_) (fun c3 => ?_)
  · replace H := H.1 c3
    refine vx_iinc (n := 1) (m := 1) (x := v1) (q := 85) (lv' := [some (.ref v0), some (.int (vx_i (v1 + 1))), some (.int (vx_i v2))]) (by decide +kernel) rfl rfl ?_
    refine vx_goto (off := (-75)) (q := 88) (t := 10) (by decide +kernel) ?_
    exact H
  · replace H := H.2 c3
    refine vx_aload_n (n := 0) (q := 34) (by decide +kernel) rfl ?_
    refine vx_getR (b := vx_r v0 4) (idx := 27) (kd := 5) (s := 4) (fin := true) (q := 37) (by decide +kernel) (vx_Tk hT ov0) (vx_Tr hT (kd := 5) ov0 (by decide +kernel) (vx_f5_4 ov0).1) ?_
    refine vx_iload_n (n := 1) (q := 38) (by decide +kernel) rfl ?_
    obtain ⟨k4, H⟩ := H
    refine vx_aaload (b := vx_r (vx_r v0 4) v1.toNat) (z := 31) (q := 39) (by decide +kernel) (vx_Tk hT (vx_f5_4 ov0).2.1) (vx_Tz hT ⟨(vx_f5_4 ov0).2.1.1, (vx_f5_4 ov0).2.2⟩) (vx_ix k4 (by decide)) (vx_Tr hT (kd := 24) (vx_f5_4 ov0).2.1 (vx_fz24 (vx_tn k4)) (vx_f24 (vx_f5_4 ov0).2.1 (vx_tn k4)).1) ?_
    refine vx_iload_n (n := 2) (q := 40) (by decide +kernel) rfl ?_
    refine vx_callI (i := .invokevirtual 63) (how := 3) (cm := 184) (np := 2) (q := 43) (args := [.ref (vx_r (vx_r v0 4) v1.toNat), .int (vx_i v2)]) (rest := []) (by decide +kernel) rfl rfl rfl (vx_w2 (w := 2) (ml := 2) rfl (by decide +kernel)) (vx_rcv (kd := 7) (vx_Tk hT (vx_f24 (vx_f5_4 ov0).2.1 (vx_tn k4)).2) (by decide +kernel)) H (fun r5 h5 hr5 hs5 H => ?_)
    have hT5 := vx_Tsh hT hs5
    replace H := H hT5
    refine vx_if0_eq (off := 33) (q := 46) (t := 76) (by decide +kernel) hr5 (fun c6 => ?_) (fun c6 => ?_)
    · replace H := H.1 c6
      refine vx_iinc (n := 2) (m := 1) (x := v2) (q := 79) (lv' := [some (.ref v0), some (.int (vx_i v1)), some (.int (vx_i (v2 + 1)))]) (by decide +kernel) rfl rfl ?_
      refine vx_goto (off := (-59)) (q := 82) (t := 20) (by decide +kernel) ?_
      exact H
    · replace H := H.2 c6
      refine vx_aload_n (n := 0) (q := 47) (by decide +kernel) rfl ?_
      refine vx_getR (b := vx_r v0 3) (idx := 22) (kd := 5) (s := 3) (fin := true) (q := 50) (by decide +kernel) (vx_Tk hT5 ov0) (vx_Tr hT5 (kd := 5) ov0 (by decide +kernel) (vx_f5_3 ov0).1) ?_
      refine vx_aload_n (n := 0) (q := 51) (by decide +kernel) rfl ?_
      refine vx_getR (b := vx_r v0 4) (idx := 27) (kd := 5) (s := 4) (fin := true) (q := 54) (by decide +kernel) (vx_Tk hT5 ov0) (vx_Tr hT5 (kd := 5) ov0 (by decide +kernel) (vx_f5_4 ov0).1) ?_
      refine vx_iload_n (n := 1) (q := 55) (by decide +kernel) rfl ?_
      obtain ⟨k7, H⟩ := H
      refine vx_aaload (b := vx_r (vx_r v0 4) v1.toNat) (z := 31) (q := 56) (by decide +kernel) (vx_Tk hT5 (vx_f5_4 ov0).2.1) (vx_Tz hT5 ⟨(vx_f5_4 ov0).2.1.1, (vx_f5_4 ov0).2.2⟩) (vx_ix k7 (by decide)) (vx_Tr hT5 (kd := 24) (vx_f5_4 ov0).2.1 (vx_fz24 (vx_tn k7)) (vx_f24 (vx_f5_4 ov0).2.1 (vx_tn k7)).1) ?_
      refine vx_getI (idx := 51) (kd := 7) (s := 0) (fin := false) (q := 59) (by decide +kernel) (vx_Tk hT5 (vx_f24 (vx_f5_4 ov0).2.1 (vx_tn k7)).2) ?_
      refine vx_dup2I (q := 60) (by decide +kernel) ?_
      obtain ⟨k8, H⟩ := H
      refine vx_iaload (z := 16) (q := 61) (by decide +kernel) (vx_Tk hT5 (vx_f5_3 ov0).2.1) (vx_Tz hT5 ⟨(vx_f5_3 ov0).2.1.1, (vx_f5_3 ov0).2.2⟩) (vx_ix k8 (by decide)) ?_
      refine vx_iconst (n := 1) (q := 62) (by decide +kernel) ?_
      refine vx_aload_n (n := 0) (q := 63) (by decide +kernel) rfl ?_
      refine vx_getR (b := vx_r v0 4) (idx := 27) (kd := 5) (s := 4) (fin := true) (q := 66) (by decide +kernel) (vx_Tk hT5 ov0) (vx_Tr hT5 (kd := 5) ov0 (by decide +kernel) (vx_f5_4 ov0).1) ?_
      refine vx_iload_n (n := 1) (q := 67) (by decide +kernel) rfl ?_
      obtain ⟨k9, H⟩ := H
      refine vx_aaload (b := vx_r (vx_r v0 4) v1.toNat) (z := 31) (q := 68) (by decide +kernel) (vx_Tk hT5 (vx_f5_4 ov0).2.1) (vx_Tz hT5 ⟨(vx_f5_4 ov0).2.1.1, (vx_f5_4 ov0).2.2⟩) (vx_ix k9 (by decide)) (vx_Tr hT5 (kd := 24) (vx_f5_4 ov0).2.1 (vx_fz24 (vx_tn k9)) (vx_f24 (vx_f5_4 ov0).2.1 (vx_tn k9)).1) ?_
      refine vx_getR (b := vx_r (vx_r (vx_r v0 4) v1.toNat) 9) (idx := 67) (kd := 7) (s := 9) (fin := true) (q := 71) (by decide +kernel) (vx_Tk hT5 (vx_f24 (vx_f5_4 ov0).2.1 (vx_tn k9)).2) (vx_Tr hT5 (kd := 7) (vx_f24 (vx_f5_4 ov0).2.1 (vx_tn k9)).2 (by decide +kernel) (vx_f7_9 (vx_f24 (vx_f5_4 ov0).2.1 (vx_tn k9)).2).1) ?_
      refine vx_iload_n (n := 2) (q := 72) (by decide +kernel) rfl ?_
      obtain ⟨k10, H⟩ := H
      refine vx_iaload (z := 6) (q := 73) (by decide +kernel) (vx_Tk hT5 (vx_f7_9 (vx_f24 (vx_f5_4 ov0).2.1 (vx_tn k9)).2).2.1) (vx_Tz hT5 ⟨(vx_f7_9 (vx_f24 (vx_f5_4 ov0).2.1 (vx_tn k9)).2).2.1.1, (vx_f7_9 (vx_f24 (vx_f5_4 ov0).2.1 (vx_tn k9)).2).2.2⟩) (vx_ix k10 (by decide)) ?_
      refine vx_ishl (q := 74) (by decide +kernel) ?_
      refine vx_ior (q := 75) (by decide +kernel) ?_
      obtain ⟨k11, H⟩ := H
      refine vx_iastore (z := 16) (q := 76) (by decide +kernel) (vx_Tk hT5 (vx_f5_3 ov0).2.1) (vx_Tz hT5 ⟨(vx_f5_3 ov0).2.1.1, (vx_f5_3 ov0).2.2⟩) (vx_ix k11 (by decide)) (fun h12 e12 => ?_)
      have hT12 := vx_TJ hT5 e12
      replace H := H h12 e12 hT12
      refine vx_iinc (n := 2) (m := 1) (x := v2) (q := 79) (lv' := [some (.ref v0), some (.int (vx_i v1)), some (.int (vx_i (v2 + 1)))]) (by decide +kernel) rfl rfl ?_
      refine vx_goto (off := (-59)) (q := 82) (t := 20) (by decide +kernel) ?_
      exact H
theorem vg_139_90 {d : Nat} {h : ve_H} {P : ve_H → Prop} {v0 : Nat} (ov0 : vx_o 1 625 5 v0) {v1 : Int} {v2 : Option Value} (hT : vx_T 1 625 h) (H : (vx_rI v1) ∧ (((vx_J h v0 6) ≤ v1 → P h) ∧ (v1 < (vx_J h v0 6) → vx_W (d + 1) 139 100 [some (.ref v0), some (.int (vx_i v1)), some (.int (vx_i 0))] [] h (vx_RV P)))) : vx_W (d + 1) 139 90 [some (.ref v0), some (.int (vx_i v1)), v2] [] h (vx_RV P) := by
  refine vx_iload_n (n := 1) (q := 91) (by decide +kernel) rfl ?_
  refine vx_aload_n (n := 0) (q := 92) (by decide +kernel) rfl ?_
  refine vx_getI (idx := 41) (kd := 5) (s := 6) (fin := false) (q := 95) (by decide +kernel) (vx_Tk hT ov0) ?_
  obtain ⟨k1, H⟩ := H
  refine vx_icmp_ge (off := 53) (q := 98) (t := 148) (by decide +kernel) k1 (vx_rI_J h v0 6) (fun c2 => ?_) (fun c2 => ?_)
  · replace H := H.1 c2
    refine vx_retV (q := 149) (by decide +kernel) ?_
    exact H
  · replace H := H.2 c2
    refine vx_iconst (n := 0) (q := 99) (by decide +kernel) ?_
    refine vx_istore_n (n := 2) (q := 100) (lv' := [some (.ref v0), some (.int (vx_i v1)), some (.int (vx_i 0))]) (by decide +kernel) rfl ?_
    exact H
theorem vg_139_100 {d : Nat} {h : ve_H} {P : ve_H → Prop} {v0 : Nat} (ov0 : vx_o 1 625 5 v0) {v1 : Int} {v2 : Int} (hT : vx_T 1 625 h) (H : (vx_rI v2) ∧ (((vx_J h v0 6) ≤ v2 → vx_W (d + 1) 139 90 [some (.ref v0), some (.int (vx_i (v1 + 1))), some (.int (vx_i v2))] [] h (vx_RV P)) ∧ (v2 < (vx_J h v0 6) → (0 ≤ v2 ∧ v2 < 16) ∧ (((vx_and (vx_J h (vx_r v0 3) v2.toNat) (vx_shl 1 v1)) = 0 → vx_W (d + 1) 139 100 [some (.ref v0), some (.int (vx_i v1)), some (.int (vx_i (v2 + 1)))] [] h (vx_RV P)) ∧ ((vx_and (vx_J h (vx_r v0 3) v2.toNat) (vx_shl 1 v1)) ≠ 0 → (0 ≤ v2 ∧ v2 < 16) ∧ (0 ≤ v1 ∧ v1 < 16) ∧ (0 ≤ v2 ∧ v2 < 16) ∧ (∀ h8, h8 = vx_sJ h (vx_r v0 3) v2.toNat (vx_or (vx_J h (vx_r v0 3) v2.toNat) (vx_J h (vx_r v0 3) v1.toNat)) → vx_T 1 625 h8 → vx_W (d + 1) 139 100 [some (.ref v0), some (.int (vx_i v1)), some (.int (vx_i (v2 + 1)))] [] h8 (vx_RV P))))))) : vx_W (d + 1) 139 100 [some (.ref v0), some (.int (vx_i v1)), some (.int (vx_i v2))] [] h (vx_RV P) := by
  refine vx_iload_n (n := 2) (q := 101) (by decide +kernel) rfl ?_
  refine vx_aload_n (n := 0) (q := 102) (by decide +kernel) rfl ?_
  refine vx_getI (idx := 41) (kd := 5) (s := 6) (fin := false) (q := 105) (by decide +kernel) (vx_Tk hT ov0) ?_
  obtain ⟨k1, H⟩ := H
  refine vx_icmp_ge (off := 37) (q := 108) (t := 142) (by decide +kernel) k1 (vx_rI_J h v0 6) (fun c2 => ?_) (fun c2 => ?_)
  · replace H := H.1 c2
    refine vx_iinc (n := 1) (m := 1) (x := v1) (q := 145) (lv' := [some (.ref v0), some (.int (vx_i (v1 + 1))), some (.int (vx_i v2))]) (by decide +kernel) rfl rfl ?_
    refine vx_goto (off := (-55)) (q := 148) (t := 90) (by decide +kernel) ?_
    exact H
  · replace H := H.2 c2
    refine vx_aload_n (n := 0) (q := 109) (by decide +kernel) rfl ?_
    refine vx_getR (b := vx_r v0 3) (idx := 22) (kd := 5) (s := 3) (fin := true) (q := 112) (by decide +kernel) (vx_Tk hT ov0) (vx_Tr hT (kd := 5) ov0 (by decide +kernel) (vx_f5_3 ov0).1) ?_
    refine vx_iload_n (n := 2) (q := 113) (by decide +kernel) rfl ?_
    obtain ⟨k3, H⟩ := H
    refine vx_iaload (z := 16) (q := 114) (by decide +kernel) (vx_Tk hT (vx_f5_3 ov0).2.1) (vx_Tz hT ⟨(vx_f5_3 ov0).2.1.1, (vx_f5_3 ov0).2.2⟩) (vx_ix k3 (by decide)) ?_
    refine vx_iconst (n := 1) (q := 115) (by decide +kernel) ?_
    refine vx_iload_n (n := 1) (q := 116) (by decide +kernel) rfl ?_
    refine vx_ishl (q := 117) (by decide +kernel) ?_
    refine vx_iand (q := 118) (by decide +kernel) ?_
    refine vx_if0_eq (off := 18) (q := 121) (t := 136) (by decide +kernel) (vx_rI_toInt _) (fun c4 => ?_) (fun c4 => ?_)
    · replace H := H.1 c4
      refine vx_iinc (n := 2) (m := 1) (x := v2) (q := 139) (lv' := [some (.ref v0), some (.int (vx_i v1)), some (.int (vx_i (v2 + 1)))]) (by decide +kernel) rfl rfl ?_
      refine vx_goto (off := (-39)) (q := 142) (t := 100) (by decide +kernel) ?_
      exact H
    · replace H := H.2 c4
      refine vx_aload_n (n := 0) (q := 122) (by decide +kernel) rfl ?_
      refine vx_getR (b := vx_r v0 3) (idx := 22) (kd := 5) (s := 3) (fin := true) (q := 125) (by decide +kernel) (vx_Tk hT ov0) (vx_Tr hT (kd := 5) ov0 (by decide +kernel) (vx_f5_3 ov0).1) ?_
      refine vx_iload_n (n := 2) (q := 126) (by decide +kernel) rfl ?_
      refine vx_dup2I (q := 127) (by decide +kernel) ?_
      obtain ⟨k5, H⟩ := H
      refine vx_iaload (z := 16) (q := 128) (by decide +kernel) (vx_Tk hT (vx_f5_3 ov0).2.1) (vx_Tz hT ⟨(vx_f5_3 ov0).2.1.1, (vx_f5_3 ov0).2.2⟩) (vx_ix k5 (by decide)) ?_
      refine vx_aload_n (n := 0) (q := 129) (by decide +kernel) rfl ?_
      refine vx_getR (b := vx_r v0 3) (idx := 22) (kd := 5) (s := 3) (fin := true) (q := 132) (by decide +kernel) (vx_Tk hT ov0) (vx_Tr hT (kd := 5) ov0 (by decide +kernel) (vx_f5_3 ov0).1) ?_
      refine vx_iload_n (n := 1) (q := 133) (by decide +kernel) rfl ?_
      obtain ⟨k6, H⟩ := H
      refine vx_iaload (z := 16) (q := 134) (by decide +kernel) (vx_Tk hT (vx_f5_3 ov0).2.1) (vx_Tz hT ⟨(vx_f5_3 ov0).2.1.1, (vx_f5_3 ov0).2.2⟩) (vx_ix k6 (by decide)) ?_
      refine vx_ior (q := 135) (by decide +kernel) ?_
      obtain ⟨k7, H⟩ := H
      refine vx_iastore (z := 16) (q := 136) (by decide +kernel) (vx_Tk hT (vx_f5_3 ov0).2.1) (vx_Tz hT ⟨(vx_f5_3 ov0).2.1.1, (vx_f5_3 ov0).2.2⟩) (vx_ix k7 (by decide)) (fun h8 e8 => ?_)
      have hT8 := vx_TJ hT e8
      replace H := H h8 e8 hT8
      refine vx_iinc (n := 2) (m := 1) (x := v2) (q := 139) (lv' := [some (.ref v0), some (.int (vx_i v1)), some (.int (vx_i (v2 + 1)))]) (by decide +kernel) rfl rfl ?_
      refine vx_goto (off := (-39)) (q := 142) (t := 100) (by decide +kernel) ?_
      exact H
-- RuleHouse$Program.hangingPlace()I
theorem vg_140 {d : Nat} {h : ve_H} {P : Int → ve_H → Prop} {a0 : Nat} (o0 : vx_o 1 625 5 a0) (hT : vx_T 1 625 h) (H : vx_W (d + 1) 140 2 [some (.ref a0), some (.int (vx_i 0)), none, none] [] h (vx_RI P)) : vx_CI (d + 1) 140 [.ref a0] h P := by
  refine vx_enter (ml := 4) (by decide +kernel) ?_
  show vx_W _ _ 0 [some (.ref a0), none, none, none] [] h _
  refine vx_iconst (n := 0) (q := 1) (by decide +kernel) ?_
  refine vx_istore_n (n := 1) (q := 2) (lv' := [some (.ref a0), some (.int (vx_i 0)), none, none]) (by decide +kernel) rfl ?_
  exact H
theorem vg_140_2 {d : Nat} {h : ve_H} {P : Int → ve_H → Prop} {v0 : Nat} (ov0 : vx_o 1 625 5 v0) {v1 : Int} {v2 : Option Value} {v3 : Option Value} (hT : vx_T 1 625 h) (H : (vx_rI v1) ∧ (((vx_J h v0 7) ≤ v1 → P ((-1)) h) ∧ (v1 < (vx_J h v0 7) → (0 ≤ v1 ∧ v1 < 31) ∧ vx_W (d + 1) 140 19 [some (.ref v0), some (.int (vx_i v1)), some (.ref (vx_r (vx_r v0 4) v1.toNat)), some (.int (vx_i 0))] [] h (vx_RI P)))) : vx_W (d + 1) 140 2 [some (.ref v0), some (.int (vx_i v1)), v2, v3] [] h (vx_RI P) := by
  refine vx_iload_n (n := 1) (q := 3) (by decide +kernel) rfl ?_
  refine vx_aload_n (n := 0) (q := 4) (by decide +kernel) rfl ?_
  refine vx_getI (idx := 45) (kd := 5) (s := 7) (fin := false) (q := 7) (by decide +kernel) (vx_Tk hT ov0) ?_
  obtain ⟨k1, H⟩ := H
  refine vx_icmp_ge (off := 121) (q := 10) (t := 128) (by decide +kernel) k1 (vx_rI_J h v0 7) (fun c2 => ?_) (fun c2 => ?_)
  · replace H := H.1 c2
    refine vx_iconst (n := (-1)) (q := 129) (by decide +kernel) ?_
    refine vx_retI (q := 130) (by decide +kernel) (by decide) ?_
    exact H
  · replace H := H.2 c2
    refine vx_aload_n (n := 0) (q := 11) (by decide +kernel) rfl ?_
    refine vx_getR (b := vx_r v0 4) (idx := 27) (kd := 5) (s := 4) (fin := true) (q := 14) (by decide +kernel) (vx_Tk hT ov0) (vx_Tr hT (kd := 5) ov0 (by decide +kernel) (vx_f5_4 ov0).1) ?_
    refine vx_iload_n (n := 1) (q := 15) (by decide +kernel) rfl ?_
    obtain ⟨k3, H⟩ := H
    refine vx_aaload (b := vx_r (vx_r v0 4) v1.toNat) (z := 31) (q := 16) (by decide +kernel) (vx_Tk hT (vx_f5_4 ov0).2.1) (vx_Tz hT ⟨(vx_f5_4 ov0).2.1.1, (vx_f5_4 ov0).2.2⟩) (vx_ix k3 (by decide)) (vx_Tr hT (kd := 24) (vx_f5_4 ov0).2.1 (vx_fz24 (vx_tn k3)) (vx_f24 (vx_f5_4 ov0).2.1 (vx_tn k3)).1) ?_
    refine vx_astore_n (n := 2) (q := 17) (lv' := [some (.ref v0), some (.int (vx_i v1)), some (.ref (vx_r (vx_r v0 4) v1.toNat)), v3]) (by decide +kernel) rfl ?_
    refine vx_iconst (n := 0) (q := 18) (by decide +kernel) ?_
    refine vx_istore_n (n := 3) (q := 19) (lv' := [some (.ref v0), some (.int (vx_i v1)), some (.ref (vx_r (vx_r v0 4) v1.toNat)), some (.int (vx_i 0))]) (by decide +kernel) rfl ?_
    exact H
theorem vg_140_19 {d : Nat} {h : ve_H} {P : Int → ve_H → Prop} {v0 : Nat} (ov0 : vx_o 1 625 5 v0) {v1 : Int} {v2 : Nat} (ov2 : vx_o 1 625 7 v2) {v3 : Int} (hT : vx_T 1 625 h) (H : (vx_rI v3) ∧ (((vx_J h v2 6) ≤ v3 → vx_W (d + 1) 140 73 [some (.ref v0), some (.int (vx_i v1)), some (.ref v2), some (.int (vx_i 0))] [] h (vx_RI P)) ∧ (v3 < (vx_J h v2 6) → (((vx_J h v2 2) = ((-1)) → vx_W (d + 1) 140 73 [some (.ref v0), some (.int (vx_i v1)), some (.ref v2), some (.int (vx_i 0))] [] h (vx_RI P)) ∧ ((vx_J h v2 2) ≠ ((-1)) → vx_CI d 184 [.ref v2, .int (vx_i v3)] h (fun r4 h4 => vx_T 1 625 h4 → ((r4 = 0 → vx_W (d + 1) 140 19 [some (.ref v0), some (.int (vx_i v1)), some (.ref v2), some (.int (vx_i (v3 + 1)))] [] h4 (vx_RI P)) ∧ (r4 ≠ 0 → (0 ≤ v3 ∧ v3 < 6) ∧ vx_CI d 141 [.ref v0, .int (vx_i (vx_J h4 (vx_r v2 9) v3.toNat)), .int (vx_i (vx_J h4 v2 0))] h4 (fun r7 h7 => vx_T 1 625 h7 → ((r7 = 0 → vx_W (d + 1) 140 19 [some (.ref v0), some (.int (vx_i v1)), some (.ref v2), some (.int (vx_i (v3 + 1)))] [] h7 (vx_RI P)) ∧ (r7 ≠ 0 → P (vx_J h7 v2 4) h7))))))))))) : vx_W (d + 1) 140 19 [some (.ref v0), some (.int (vx_i v1)), some (.ref v2), some (.int (vx_i v3))] [] h (vx_RI P) := by
  refine vx_iload_n (n := 3) (q := 20) (by decide +kernel) rfl ?_
  refine vx_aload_n (n := 2) (q := 21) (by decide +kernel) rfl ?_
  refine vx_getI (idx := 60) (kd := 7) (s := 6) (fin := false) (q := 24) (by decide +kernel) (vx_Tk hT ov2) ?_
  obtain ⟨k1, H⟩ := H
  refine vx_icmp_ge (off := 47) (q := 27) (t := 71) (by decide +kernel) k1 (vx_rI_J h v2 6) (fun c2 => ?_) (fun c2 => ?_)
  · replace H := H.1 c2
    refine vx_iconst (n := 0) (q := 72) (by decide +kernel) ?_
    refine vx_istore_n (n := 3) (q := 73) (lv' := [some (.ref v0), some (.int (vx_i v1)), some (.ref v2), some (.int (vx_i 0))]) (by decide +kernel) rfl ?_
    exact H
  · replace H := H.2 c2
    refine vx_aload_n (n := 2) (q := 28) (by decide +kernel) rfl ?_
    refine vx_getI (idx := 70) (kd := 7) (s := 2) (fin := false) (q := 31) (by decide +kernel) (vx_Tk hT ov2) ?_
    refine vx_iconst (n := (-1)) (q := 32) (by decide +kernel) ?_
    refine vx_icmp_eq (off := 39) (q := 35) (t := 71) (by decide +kernel) (vx_rI_J h v2 2) (by decide) (fun c3 => ?_) (fun c3 => ?_)
    · replace H := H.1 c3
      refine vx_iconst (n := 0) (q := 72) (by decide +kernel) ?_
      refine vx_istore_n (n := 3) (q := 73) (lv' := [some (.ref v0), some (.int (vx_i v1)), some (.ref v2), some (.int (vx_i 0))]) (by decide +kernel) rfl ?_
      exact H
    · replace H := H.2 c3
      refine vx_aload_n (n := 2) (q := 36) (by decide +kernel) rfl ?_
      refine vx_iload_n (n := 3) (q := 37) (by decide +kernel) rfl ?_
      refine vx_callI (i := .invokevirtual 63) (how := 3) (cm := 184) (np := 2) (q := 40) (args := [.ref v2, .int (vx_i v3)]) (rest := []) (by decide +kernel) rfl rfl rfl (vx_w2 (w := 2) (ml := 2) rfl (by decide +kernel)) (vx_rcv (kd := 7) (vx_Tk hT ov2) (by decide +kernel)) H (fun r4 h4 hr4 hs4 H => ?_)
      have hT4 := vx_Tsh hT hs4
      replace H := H hT4
      refine vx_if0_eq (off := 25) (q := 43) (t := 65) (by decide +kernel) hr4 (fun c5 => ?_) (fun c5 => ?_)
      · replace H := H.1 c5
        refine vx_iinc (n := 3) (m := 1) (x := v3) (q := 68) (lv' := [some (.ref v0), some (.int (vx_i v1)), some (.ref v2), some (.int (vx_i (v3 + 1)))]) (by decide +kernel) rfl rfl ?_
        refine vx_goto (off := (-49)) (q := 71) (t := 19) (by decide +kernel) ?_
        exact H
      · replace H := H.2 c5
        refine vx_aload_n (n := 0) (q := 44) (by decide +kernel) rfl ?_
        refine vx_aload_n (n := 2) (q := 45) (by decide +kernel) rfl ?_
        refine vx_getR (b := vx_r v2 9) (idx := 67) (kd := 7) (s := 9) (fin := true) (q := 48) (by decide +kernel) (vx_Tk hT4 ov2) (vx_Tr hT4 (kd := 7) ov2 (by decide +kernel) (vx_f7_9 ov2).1) ?_
        refine vx_iload_n (n := 3) (q := 49) (by decide +kernel) rfl ?_
        obtain ⟨k6, H⟩ := H
        refine vx_iaload (z := 6) (q := 50) (by decide +kernel) (vx_Tk hT4 (vx_f7_9 ov2).2.1) (vx_Tz hT4 ⟨(vx_f7_9 ov2).2.1.1, (vx_f7_9 ov2).2.2⟩) (vx_ix k6 (by decide)) ?_
        refine vx_aload_n (n := 2) (q := 51) (by decide +kernel) rfl ?_
        refine vx_getI (idx := 51) (kd := 7) (s := 0) (fin := false) (q := 54) (by decide +kernel) (vx_Tk hT4 ov2) ?_
        refine vx_callI (i := .invokevirtual 73) (how := 3) (cm := 141) (np := 3) (q := 57) (args := [.ref v0, .int (vx_i (vx_J h4 (vx_r v2 9) v3.toNat)), .int (vx_i (vx_J h4 v2 0))]) (rest := []) (by decide +kernel) rfl rfl rfl (vx_w2 (w := 3) (ml := 3) rfl (by decide +kernel)) (vx_rcv (kd := 5) (vx_Tk hT4 ov0) (by decide +kernel)) H (fun r7 h7 hr7 hs7 H => ?_)
        have hT7 := vx_Tsh hT4 hs7
        replace H := H hT7
        refine vx_if0_eq (off := 8) (q := 60) (t := 65) (by decide +kernel) hr7 (fun c8 => ?_) (fun c8 => ?_)
        · replace H := H.1 c8
          refine vx_iinc (n := 3) (m := 1) (x := v3) (q := 68) (lv' := [some (.ref v0), some (.int (vx_i v1)), some (.ref v2), some (.int (vx_i (v3 + 1)))]) (by decide +kernel) rfl rfl ?_
          refine vx_goto (off := (-49)) (q := 71) (t := 19) (by decide +kernel) ?_
          exact H
        · replace H := H.2 c8
          refine vx_aload_n (n := 2) (q := 61) (by decide +kernel) rfl ?_
          refine vx_getI (idx := 77) (kd := 7) (s := 4) (fin := false) (q := 64) (by decide +kernel) (vx_Tk hT7 ov2) ?_
          refine vx_retI (q := 65) (by decide +kernel) (vx_rI_J h7 v2 4) ?_
          exact H
theorem vg_140_73 {d : Nat} {h : ve_H} {P : Int → ve_H → Prop} {v0 : Nat} (ov0 : vx_o 1 625 5 v0) {v1 : Int} {v2 : Nat} (ov2 : vx_o 1 625 7 v2) {v3 : Int} (hT : vx_T 1 625 h) (H : (vx_rI v3) ∧ (((vx_J h v2 6) ≤ v3 → vx_W (d + 1) 140 2 [some (.ref v0), some (.int (vx_i (v1 + 1))), some (.ref v2), some (.int (vx_i v3))] [] h (vx_RI P)) ∧ (v3 < (vx_J h v2 6) → (0 ≤ v3 ∧ v3 < 6) ∧ (((vx_J h (vx_r v2 8) v3.toNat) ≠ 15 → vx_W (d + 1) 140 73 [some (.ref v0), some (.int (vx_i v1)), some (.ref v2), some (.int (vx_i (v3 + 1)))] [] h (vx_RI P)) ∧ ((vx_J h (vx_r v2 8) v3.toNat) = 15 → (0 ≤ v3 ∧ v3 < 6) ∧ vx_CI d 141 [.ref v0, .int (vx_i (vx_J h (vx_r v2 9) v3.toNat)), .int (vx_i (vx_J h v2 0))] h (fun r6 h6 => vx_T 1 625 h6 → ((r6 = 0 → vx_W (d + 1) 140 73 [some (.ref v0), some (.int (vx_i v1)), some (.ref v2), some (.int (vx_i (v3 + 1)))] [] h6 (vx_RI P)) ∧ (r6 ≠ 0 → (0 ≤ v3 ∧ v3 < 6) ∧ P (vx_J h6 (vx_r v2 10) v3.toNat) h6)))))))) : vx_W (d + 1) 140 73 [some (.ref v0), some (.int (vx_i v1)), some (.ref v2), some (.int (vx_i v3))] [] h (vx_RI P) := by
  refine vx_iload_n (n := 3) (q := 74) (by decide +kernel) rfl ?_
  refine vx_aload_n (n := 2) (q := 75) (by decide +kernel) rfl ?_
  refine vx_getI (idx := 60) (kd := 7) (s := 6) (fin := false) (q := 78) (by decide +kernel) (vx_Tk hT ov2) ?_
  obtain ⟨k1, H⟩ := H
  refine vx_icmp_ge (off := 44) (q := 81) (t := 122) (by decide +kernel) k1 (vx_rI_J h v2 6) (fun c2 => ?_) (fun c2 => ?_)
  · replace H := H.1 c2
    refine vx_iinc (n := 1) (m := 1) (x := v1) (q := 125) (lv' := [some (.ref v0), some (.int (vx_i (v1 + 1))), some (.ref v2), some (.int (vx_i v3))]) (by decide +kernel) rfl rfl ?_
    refine vx_goto (off := (-123)) (q := 128) (t := 2) (by decide +kernel) ?_
    exact H
  · replace H := H.2 c2
    refine vx_aload_n (n := 2) (q := 82) (by decide +kernel) rfl ?_
    refine vx_getR (b := vx_r v2 8) (idx := 80) (kd := 7) (s := 8) (fin := true) (q := 85) (by decide +kernel) (vx_Tk hT ov2) (vx_Tr hT (kd := 7) ov2 (by decide +kernel) (vx_f7_8 ov2).1) ?_
    refine vx_iload_n (n := 3) (q := 86) (by decide +kernel) rfl ?_
    obtain ⟨k3, H⟩ := H
    refine vx_iaload (z := 6) (q := 87) (by decide +kernel) (vx_Tk hT (vx_f7_8 ov2).2.1) (vx_Tz hT ⟨(vx_f7_8 ov2).2.1.1, (vx_f7_8 ov2).2.2⟩) (vx_ix k3 (by decide)) ?_
    refine vx_bipush (n := 15) (q := 89) (by decide +kernel) ?_
    refine vx_icmp_ne (off := 27) (q := 92) (t := 116) (by decide +kernel) (vx_rI_J h (vx_r v2 8) v3.toNat) (by decide) (fun c4 => ?_) (fun c4 => ?_)
    · replace H := H.1 c4
      refine vx_iinc (n := 3) (m := 1) (x := v3) (q := 119) (lv' := [some (.ref v0), some (.int (vx_i v1)), some (.ref v2), some (.int (vx_i (v3 + 1)))]) (by decide +kernel) rfl rfl ?_
      refine vx_goto (off := (-46)) (q := 122) (t := 73) (by decide +kernel) ?_
      exact H
    · replace H := H.2 c4
      refine vx_aload_n (n := 0) (q := 93) (by decide +kernel) rfl ?_
      refine vx_aload_n (n := 2) (q := 94) (by decide +kernel) rfl ?_
      refine vx_getR (b := vx_r v2 9) (idx := 67) (kd := 7) (s := 9) (fin := true) (q := 97) (by decide +kernel) (vx_Tk hT ov2) (vx_Tr hT (kd := 7) ov2 (by decide +kernel) (vx_f7_9 ov2).1) ?_
      refine vx_iload_n (n := 3) (q := 98) (by decide +kernel) rfl ?_
      obtain ⟨k5, H⟩ := H
      refine vx_iaload (z := 6) (q := 99) (by decide +kernel) (vx_Tk hT (vx_f7_9 ov2).2.1) (vx_Tz hT ⟨(vx_f7_9 ov2).2.1.1, (vx_f7_9 ov2).2.2⟩) (vx_ix k5 (by decide)) ?_
      refine vx_aload_n (n := 2) (q := 100) (by decide +kernel) rfl ?_
      refine vx_getI (idx := 51) (kd := 7) (s := 0) (fin := false) (q := 103) (by decide +kernel) (vx_Tk hT ov2) ?_
      refine vx_callI (i := .invokevirtual 73) (how := 3) (cm := 141) (np := 3) (q := 106) (args := [.ref v0, .int (vx_i (vx_J h (vx_r v2 9) v3.toNat)), .int (vx_i (vx_J h v2 0))]) (rest := []) (by decide +kernel) rfl rfl rfl (vx_w2 (w := 3) (ml := 3) rfl (by decide +kernel)) (vx_rcv (kd := 5) (vx_Tk hT ov0) (by decide +kernel)) H (fun r6 h6 hr6 hs6 H => ?_)
      have hT6 := vx_Tsh hT hs6
      replace H := H hT6
      refine vx_if0_eq (off := 10) (q := 109) (t := 116) (by decide +kernel) hr6 (fun c7 => ?_) (fun c7 => ?_)
      · replace H := H.1 c7
        refine vx_iinc (n := 3) (m := 1) (x := v3) (q := 119) (lv' := [some (.ref v0), some (.int (vx_i v1)), some (.ref v2), some (.int (vx_i (v3 + 1)))]) (by decide +kernel) rfl rfl ?_
        refine vx_goto (off := (-46)) (q := 122) (t := 73) (by decide +kernel) ?_
        exact H
      · replace H := H.2 c7
        refine vx_aload_n (n := 2) (q := 110) (by decide +kernel) rfl ?_
        refine vx_getR (b := vx_r v2 10) (idx := 83) (kd := 7) (s := 10) (fin := true) (q := 113) (by decide +kernel) (vx_Tk hT6 ov2) (vx_Tr hT6 (kd := 7) ov2 (by decide +kernel) (vx_f7_10 ov2).1) ?_
        refine vx_iload_n (n := 3) (q := 114) (by decide +kernel) rfl ?_
        obtain ⟨k8, H⟩ := H
        refine vx_iaload (z := 6) (q := 115) (by decide +kernel) (vx_Tk hT6 (vx_f7_10 ov2).2.1) (vx_Tz hT6 ⟨(vx_f7_10 ov2).2.1.1, (vx_f7_10 ov2).2.2⟩) (vx_ix k8 (by decide)) ?_
        refine vx_retI (q := 116) (by decide +kernel) (vx_rI_J h6 (vx_r v2 10) v3.toNat) ?_
        exact H
-- RuleHouse$Program.comesBack(II)Z
theorem vg_141 {d : Nat} {h : ve_H} {P : Int → ve_H → Prop} {a0 : Nat} (o0 : vx_o 1 625 5 a0) {x1 : Int} {x2 : Int} (hT : vx_T 1 625 h) (H : (vx_rI x1) ∧ (vx_rI x2) ∧ ((x1 = x2 → P 1 h) ∧ (x1 ≠ x2 → (0 ≤ x1 ∧ x1 < 16) ∧ (((vx_and (vx_J h (vx_r a0 3) x1.toNat) (vx_shl 1 x2)) = 0 → P 0 h) ∧ ((vx_and (vx_J h (vx_r a0 3) x1.toNat) (vx_shl 1 x2)) ≠ 0 → P 1 h))))) : vx_CI d 141 [.ref a0, .int (vx_i x1), .int (vx_i x2)] h P := by
  refine vx_enter (ml := 3) (by decide +kernel) ?_
  show vx_W _ _ 0 [some (.ref a0), some (.int (vx_i x1)), some (.int (vx_i x2))] [] h _
  refine vx_iload_n (n := 1) (q := 1) (by decide +kernel) rfl ?_
  refine vx_iload_n (n := 2) (q := 2) (by decide +kernel) rfl ?_
  obtain ⟨k1, H⟩ := H
  obtain ⟨k2, H⟩ := H
  refine vx_icmp_eq (off := 16) (q := 5) (t := 18) (by decide +kernel) k1 k2 (fun c3 => ?_) (fun c3 => ?_)
  · replace H := H.1 c3
    refine vx_iconst (n := 1) (q := 19) (by decide +kernel) ?_
    refine vx_goto (off := 4) (q := 22) (t := 23) (by decide +kernel) ?_
    refine vx_retZ (q := 24) (by decide +kernel) (Or.inr rfl) ?_
    exact H
  · replace H := H.2 c3
    refine vx_aload_n (n := 0) (q := 6) (by decide +kernel) rfl ?_
    refine vx_getR (b := vx_r a0 3) (idx := 22) (kd := 5) (s := 3) (fin := true) (q := 9) (by decide +kernel) (vx_Tk hT o0) (vx_Tr hT (kd := 5) o0 (by decide +kernel) (vx_f5_3 o0).1) ?_
    refine vx_iload_n (n := 1) (q := 10) (by decide +kernel) rfl ?_
    obtain ⟨k4, H⟩ := H
    refine vx_iaload (z := 16) (q := 11) (by decide +kernel) (vx_Tk hT (vx_f5_3 o0).2.1) (vx_Tz hT ⟨(vx_f5_3 o0).2.1.1, (vx_f5_3 o0).2.2⟩) (vx_ix k4 (by decide)) ?_
    refine vx_iconst (n := 1) (q := 12) (by decide +kernel) ?_
    refine vx_iload_n (n := 2) (q := 13) (by decide +kernel) rfl ?_
    refine vx_ishl (q := 14) (by decide +kernel) ?_
    refine vx_iand (q := 15) (by decide +kernel) ?_
    refine vx_if0_eq (off := 7) (q := 18) (t := 22) (by decide +kernel) (vx_rI_toInt _) (fun c5 => ?_) (fun c5 => ?_)
    · replace H := H.1 c5
      refine vx_iconst (n := 0) (q := 23) (by decide +kernel) ?_
      refine vx_retZ (q := 24) (by decide +kernel) (Or.inl rfl) ?_
      exact H
    · replace H := H.2 c5
      refine vx_iconst (n := 1) (q := 19) (by decide +kernel) ?_
      refine vx_goto (off := 4) (q := 22) (t := 23) (by decide +kernel) ?_
      refine vx_retZ (q := 24) (by decide +kernel) (Or.inr rfl) ?_
      exact H
-- RuleHouse$Program.findStrata()V
theorem vg_142 {d : Nat} {h : ve_H} {P : ve_H → Prop} {a0 : Nat} (o0 : vx_o 1 625 5 a0) (hT : vx_T 1 625 h) (H : vx_CV d 217 [.ref (vx_r a0 2), .int (vx_i 0)] h (fun h1 => vx_T 1 625 h1 → vx_W (d + 1) 142 10 [some (.ref a0), some (.int (vx_i 0)), none, none] [] h1 (vx_RV P))) : vx_CV (d + 1) 142 [.ref a0] h P := by
  refine vx_enter (ml := 4) (by decide +kernel) ?_
  show vx_W _ _ 0 [some (.ref a0), none, none, none] [] h _
  refine vx_aload_n (n := 0) (q := 1) (by decide +kernel) rfl ?_
  refine vx_getR (b := vx_r a0 2) (idx := 19) (kd := 5) (s := 2) (fin := true) (q := 4) (by decide +kernel) (vx_Tk hT o0) (vx_Tr hT (kd := 5) o0 (by decide +kernel) (vx_f5_2 o0).1) ?_
  refine vx_iconst (n := 0) (q := 5) (by decide +kernel) ?_
  refine vx_callV (i := .invokestatic 54) (how := 4) (cm := 217) (np := 2) (q := 8) (args := [.ref (vx_r a0 2), .int (vx_i 0)]) (rest := []) (by decide +kernel) rfl rfl rfl (vx_w2 (w := 2) (ml := 4) rfl (by decide +kernel)) rfl H (fun h1 hs1 H => ?_)
  have hT1 := vx_Tsh hT hs1
  replace H := H hT1
  refine vx_iconst (n := 0) (q := 9) (by decide +kernel) ?_
  refine vx_istore_n (n := 1) (q := 10) (lv' := [some (.ref a0), some (.int (vx_i 0)), none, none]) (by decide +kernel) rfl ?_
  exact H
theorem vg_142_10 {d : Nat} {h : ve_H} {P : ve_H → Prop} {v0 : Nat} (ov0 : vx_o 1 625 5 v0) {v1 : Int} {v2 : Option Value} {v3 : Option Value} (hT : vx_T 1 625 h) (H : (vx_rI v1) ∧ ((256 ≤ v1 → (∀ h3, h3 = vx_sJ h v0 8 0 → vx_T 1 625 h3 → vx_W (d + 1) 142 68 [some (.ref v0), some (.int (vx_i 0)), v2, v3] [] h3 (vx_RV P))) ∧ (v1 < 256 → vx_W (d + 1) 142 21 [some (.ref v0), some (.int (vx_i v1)), some (.int (vx_i 0)), some (.int (vx_i 0))] [] h (vx_RV P)))) : vx_W (d + 1) 142 10 [some (.ref v0), some (.int (vx_i v1)), v2, v3] [] h (vx_RV P) := by
  refine vx_iload_n (n := 1) (q := 11) (by decide +kernel) rfl ?_
  refine vx_sipush (n := 256) (q := 14) (by decide +kernel) ?_
  obtain ⟨k1, H⟩ := H
  refine vx_icmp_ge (off := 47) (q := 17) (t := 61) (by decide +kernel) k1 (by decide) (fun c2 => ?_) (fun c2 => ?_)
  · replace H := H.1 c2
    refine vx_aload_n (n := 0) (q := 62) (by decide +kernel) rfl ?_
    refine vx_iconst (n := 0) (q := 63) (by decide +kernel) ?_
    refine vx_putI (idx := 90) (kd := 5) (s := 8) (fin := false) (q := 66) (by decide +kernel) (vx_Tk hT ov0) (fun h3 e3 => ?_)
    have hT3 := vx_TJ hT e3
    replace H := H h3 e3 hT3
    refine vx_iconst (n := 0) (q := 67) (by decide +kernel) ?_
    refine vx_istore_n (n := 1) (q := 68) (lv' := [some (.ref v0), some (.int (vx_i 0)), v2, v3]) (by decide +kernel) rfl ?_
    exact H
  · replace H := H.2 c2
    refine vx_iconst (n := 0) (q := 18) (by decide +kernel) ?_
    refine vx_istore_n (n := 2) (q := 19) (lv' := [some (.ref v0), some (.int (vx_i v1)), some (.int (vx_i 0)), v3]) (by decide +kernel) rfl ?_
    refine vx_iconst (n := 0) (q := 20) (by decide +kernel) ?_
    refine vx_istore_n (n := 3) (q := 21) (lv' := [some (.ref v0), some (.int (vx_i v1)), some (.int (vx_i 0)), some (.int (vx_i 0))]) (by decide +kernel) rfl ?_
    exact H
theorem vg_142_21 {d : Nat} {h : ve_H} {P : ve_H → Prop} {v0 : Nat} (ov0 : vx_o 1 625 5 v0) {v1 : Int} {v2 : Int} {v3 : Int} (hT : vx_T 1 625 h) (H : (vx_rI v3) ∧ (((vx_J h v0 7) ≤ v3 → (vx_rI v2) ∧ ((v2 ≠ 0 → vx_W (d + 1) 142 10 [some (.ref v0), some (.int (vx_i (v1 + 1))), some (.int (vx_i v2)), some (.int (vx_i v3))] [] h (vx_RV P)) ∧ (v2 = 0 → (∀ h5, h5 = vx_sJ h v0 8 0 → vx_T 1 625 h5 → vx_W (d + 1) 142 68 [some (.ref v0), some (.int (vx_i 0)), some (.int (vx_i v2)), some (.int (vx_i v3))] [] h5 (vx_RV P))))) ∧ (v3 < (vx_J h v0 7) → (0 ≤ v3 ∧ v3 < 31) ∧ vx_CI d 143 [.ref v0, .ref (vx_r (vx_r v0 4) v3.toNat)] h (fun r7 h7 => vx_T 1 625 h7 → vx_W (d + 1) 142 21 [some (.ref v0), some (.int (vx_i v1)), some (.int (vx_i (vx_or v2 r7))), some (.int (vx_i (v3 + 1)))] [] h7 (vx_RV P))))) : vx_W (d + 1) 142 21 [some (.ref v0), some (.int (vx_i v1)), some (.int (vx_i v2)), some (.int (vx_i v3))] [] h (vx_RV P) := by
  refine vx_iload_n (n := 3) (q := 22) (by decide +kernel) rfl ?_
  refine vx_aload_n (n := 0) (q := 23) (by decide +kernel) rfl ?_
  refine vx_getI (idx := 45) (kd := 5) (s := 7) (fin := false) (q := 26) (by decide +kernel) (vx_Tk hT ov0) ?_
  obtain ⟨k1, H⟩ := H
  refine vx_icmp_ge (off := 22) (q := 29) (t := 48) (by decide +kernel) k1 (vx_rI_J h v0 7) (fun c2 => ?_) (fun c2 => ?_)
  · replace H := H.1 c2
    refine vx_iload_n (n := 2) (q := 49) (by decide +kernel) rfl ?_
    obtain ⟨k3, H⟩ := H
    refine vx_if0_ne (off := 6) (q := 52) (t := 55) (by decide +kernel) k3 (fun c4 => ?_) (fun c4 => ?_)
    · replace H := H.1 c4
      refine vx_iinc (n := 1) (m := 1) (x := v1) (q := 58) (lv' := [some (.ref v0), some (.int (vx_i (v1 + 1))), some (.int (vx_i v2)), some (.int (vx_i v3))]) (by decide +kernel) rfl rfl ?_
      refine vx_goto (off := (-48)) (q := 61) (t := 10) (by decide +kernel) ?_
      exact H
    · replace H := H.2 c4
      refine vx_goto (off := 9) (q := 55) (t := 61) (by decide +kernel) ?_
      refine vx_aload_n (n := 0) (q := 62) (by decide +kernel) rfl ?_
      refine vx_iconst (n := 0) (q := 63) (by decide +kernel) ?_
      refine vx_putI (idx := 90) (kd := 5) (s := 8) (fin := false) (q := 66) (by decide +kernel) (vx_Tk hT ov0) (fun h5 e5 => ?_)
      have hT5 := vx_TJ hT e5
      replace H := H h5 e5 hT5
      refine vx_iconst (n := 0) (q := 67) (by decide +kernel) ?_
      refine vx_istore_n (n := 1) (q := 68) (lv' := [some (.ref v0), some (.int (vx_i 0)), some (.int (vx_i v2)), some (.int (vx_i v3))]) (by decide +kernel) rfl ?_
      exact H
  · replace H := H.2 c2
    refine vx_iload_n (n := 2) (q := 30) (by decide +kernel) rfl ?_
    refine vx_aload_n (n := 0) (q := 31) (by decide +kernel) rfl ?_
    refine vx_aload_n (n := 0) (q := 32) (by decide +kernel) rfl ?_
    refine vx_getR (b := vx_r v0 4) (idx := 27) (kd := 5) (s := 4) (fin := true) (q := 35) (by decide +kernel) (vx_Tk hT ov0) (vx_Tr hT (kd := 5) ov0 (by decide +kernel) (vx_f5_4 ov0).1) ?_
    refine vx_iload_n (n := 3) (q := 36) (by decide +kernel) rfl ?_
    obtain ⟨k6, H⟩ := H
    refine vx_aaload (b := vx_r (vx_r v0 4) v3.toNat) (z := 31) (q := 37) (by decide +kernel) (vx_Tk hT (vx_f5_4 ov0).2.1) (vx_Tz hT ⟨(vx_f5_4 ov0).2.1.1, (vx_f5_4 ov0).2.2⟩) (vx_ix k6 (by decide)) (vx_Tr hT (kd := 24) (vx_f5_4 ov0).2.1 (vx_fz24 (vx_tn k6)) (vx_f24 (vx_f5_4 ov0).2.1 (vx_tn k6)).1) ?_
    refine vx_callI (i := .invokevirtual 86) (how := 3) (cm := 143) (np := 2) (q := 40) (args := [.ref v0, .ref (vx_r (vx_r v0 4) v3.toNat)]) (rest := [.int (vx_i v2)]) (by decide +kernel) rfl rfl rfl (vx_w2 (w := 2) (ml := 5) rfl (by decide +kernel)) (vx_rcv (kd := 5) (vx_Tk hT ov0) (by decide +kernel)) H (fun r7 h7 hr7 hs7 H => ?_)
    have hT7 := vx_Tsh hT hs7
    replace H := H hT7
    refine vx_ior (q := 41) (by decide +kernel) ?_
    refine vx_istore_n (n := 2) (q := 42) (lv' := [some (.ref v0), some (.int (vx_i v1)), some (.int (vx_i (vx_or v2 r7))), some (.int (vx_i v3))]) (by decide +kernel) rfl ?_
    refine vx_iinc (n := 3) (m := 1) (x := v3) (q := 45) (lv' := [some (.ref v0), some (.int (vx_i v1)), some (.int (vx_i (vx_or v2 r7))), some (.int (vx_i (v3 + 1)))]) (by decide +kernel) rfl rfl ?_
    refine vx_goto (off := (-24)) (q := 48) (t := 21) (by decide +kernel) ?_
    exact H
theorem vg_142_68 {d : Nat} {h : ve_H} {P : ve_H → Prop} {v0 : Nat} (ov0 : vx_o 1 625 5 v0) {v1 : Int} {v2 : Option Value} {v3 : Option Value} (hT : vx_T 1 625 h) (H : (vx_rI v1) ∧ (((vx_J h v0 6) ≤ v1 → P h) ∧ (v1 < (vx_J h v0 6) → (0 ≤ v1 ∧ v1 < 16) ∧ vx_CI d 219 [.int (vx_i (vx_J h v0 8)), .int (vx_i ((vx_J h (vx_r v0 2) v1.toNat) + 1))] h (fun r4 h4 => vx_T 1 625 h4 → (∀ h5, h5 = vx_sJ h4 v0 8 r4 → vx_T 1 625 h5 → vx_W (d + 1) 142 68 [some (.ref v0), some (.int (vx_i (v1 + 1))), v2, v3] [] h5 (vx_RV P)))))) : vx_W (d + 1) 142 68 [some (.ref v0), some (.int (vx_i v1)), v2, v3] [] h (vx_RV P) := by
  refine vx_iload_n (n := 1) (q := 69) (by decide +kernel) rfl ?_
  refine vx_aload_n (n := 0) (q := 70) (by decide +kernel) rfl ?_
  refine vx_getI (idx := 41) (kd := 5) (s := 6) (fin := false) (q := 73) (by decide +kernel) (vx_Tk hT ov0) ?_
  obtain ⟨k1, H⟩ := H
  refine vx_icmp_ge (off := 28) (q := 76) (t := 101) (by decide +kernel) k1 (vx_rI_J h v0 6) (fun c2 => ?_) (fun c2 => ?_)
  · replace H := H.1 c2
    refine vx_retV (q := 102) (by decide +kernel) ?_
    exact H
  · replace H := H.2 c2
    refine vx_aload_n (n := 0) (q := 77) (by decide +kernel) rfl ?_
    refine vx_aload_n (n := 0) (q := 78) (by decide +kernel) rfl ?_
    refine vx_getI (idx := 90) (kd := 5) (s := 8) (fin := false) (q := 81) (by decide +kernel) (vx_Tk hT ov0) ?_
    refine vx_aload_n (n := 0) (q := 82) (by decide +kernel) rfl ?_
    refine vx_getR (b := vx_r v0 2) (idx := 19) (kd := 5) (s := 2) (fin := true) (q := 85) (by decide +kernel) (vx_Tk hT ov0) (vx_Tr hT (kd := 5) ov0 (by decide +kernel) (vx_f5_2 ov0).1) ?_
    refine vx_iload_n (n := 1) (q := 86) (by decide +kernel) rfl ?_
    obtain ⟨k3, H⟩ := H
    refine vx_iaload (z := 16) (q := 87) (by decide +kernel) (vx_Tk hT (vx_f5_2 ov0).2.1) (vx_Tz hT ⟨(vx_f5_2 ov0).2.1.1, (vx_f5_2 ov0).2.2⟩) (vx_ix k3 (by decide)) ?_
    refine vx_iconst (n := 1) (q := 88) (by decide +kernel) ?_
    refine vx_iadd (q := 89) (by decide +kernel) ?_
    refine vx_callI (i := .invokestatic 93) (how := 4) (cm := 219) (np := 2) (q := 92) (args := [.int (vx_i (vx_J h v0 8)), .int (vx_i ((vx_J h (vx_r v0 2) v1.toNat) + 1))]) (rest := [.ref v0]) (by decide +kernel) rfl rfl rfl (vx_w2 (w := 2) (ml := 2) rfl (by decide +kernel)) rfl H (fun r4 h4 hr4 hs4 H => ?_)
    have hT4 := vx_Tsh hT hs4
    replace H := H hT4
    refine vx_putI (idx := 90) (kd := 5) (s := 8) (fin := false) (q := 95) (by decide +kernel) (vx_Tk hT4 ov0) (fun h5 e5 => ?_)
    have hT5 := vx_TJ hT4 e5
    replace H := H h5 e5 hT5
    refine vx_iinc (n := 1) (m := 1) (x := v1) (q := 98) (lv' := [some (.ref v0), some (.int (vx_i (v1 + 1))), v2, v3]) (by decide +kernel) rfl rfl ?_
    refine vx_goto (off := (-30)) (q := 101) (t := 68) (by decide +kernel) ?_
    exact H
-- RuleHouse$Program.raise(LRuleHouse$Rule;)Z
theorem vg_143 {d : Nat} {h : ve_H} {P : Int → ve_H → Prop} {a0 : Nat} (o0 : vx_o 1 625 5 a0) {a1 : Nat} (o1 : vx_o 1 625 7 a1) (hT : vx_T 1 625 h) (H : (0 ≤ (vx_J h a1 0) ∧ (vx_J h a1 0) < 16) ∧ vx_W (d + 1) 143 12 [some (.ref a0), some (.ref a1), some (.int (vx_i (vx_J h (vx_r a0 2) (vx_J h a1 0).toNat))), some (.int (vx_i 0)), none] [] h (vx_RI P)) : vx_CI (d + 1) 143 [.ref a0, .ref a1] h P := by
  refine vx_enter (ml := 5) (by decide +kernel) ?_
  show vx_W _ _ 0 [some (.ref a0), some (.ref a1), none, none, none] [] h _
  refine vx_aload_n (n := 0) (q := 1) (by decide +kernel) rfl ?_
  refine vx_getR (b := vx_r a0 2) (idx := 19) (kd := 5) (s := 2) (fin := true) (q := 4) (by decide +kernel) (vx_Tk hT o0) (vx_Tr hT (kd := 5) o0 (by decide +kernel) (vx_f5_2 o0).1) ?_
  refine vx_aload_n (n := 1) (q := 5) (by decide +kernel) rfl ?_
  refine vx_getI (idx := 51) (kd := 7) (s := 0) (fin := false) (q := 8) (by decide +kernel) (vx_Tk hT o1) ?_
  obtain ⟨k1, H⟩ := H
  refine vx_iaload (z := 16) (q := 9) (by decide +kernel) (vx_Tk hT (vx_f5_2 o0).2.1) (vx_Tz hT ⟨(vx_f5_2 o0).2.1.1, (vx_f5_2 o0).2.2⟩) (vx_ix k1 (by decide)) ?_
  refine vx_istore_n (n := 2) (q := 10) (lv' := [some (.ref a0), some (.ref a1), some (.int (vx_i (vx_J h (vx_r a0 2) (vx_J h a1 0).toNat))), none, none]) (by decide +kernel) rfl ?_
  refine vx_iconst (n := 0) (q := 11) (by decide +kernel) ?_
  refine vx_istore_n (n := 3) (q := 12) (lv' := [some (.ref a0), some (.ref a1), some (.int (vx_i (vx_J h (vx_r a0 2) (vx_J h a1 0).toNat))), some (.int (vx_i 0)), none]) (by decide +kernel) rfl ?_
  exact H
theorem vg_143_12 {d : Nat} {h : ve_H} {P : Int → ve_H → Prop} {v0 : Nat} (ov0 : vx_o 1 625 5 v0) {v1 : Nat} (ov1 : vx_o 1 625 7 v1) {v2 : Int} {v3 : Int} {v4 : Option Value} (hT : vx_T 1 625 h) (H : (vx_rI v3) ∧ (((vx_J h v1 6) ≤ v3 → (0 ≤ (vx_J h v1 0) ∧ (vx_J h v1 0) < 16) ∧ (vx_rI v2) ∧ ((v2 ≤ (vx_J h (vx_r v0 2) (vx_J h v1 0).toNat) → (0 ≤ (vx_J h v1 0) ∧ (vx_J h v1 0) < 16) ∧ (∀ h7, h7 = vx_sJ h (vx_r v0 2) (vx_J h v1 0).toNat v2 → vx_T 1 625 h7 → P 0 h7)) ∧ ((vx_J h (vx_r v0 2) (vx_J h v1 0).toNat) < v2 → (0 ≤ (vx_J h v1 0) ∧ (vx_J h v1 0) < 16) ∧ (∀ h9, h9 = vx_sJ h (vx_r v0 2) (vx_J h v1 0).toNat v2 → vx_T 1 625 h9 → P 1 h9)))) ∧ (v3 < (vx_J h v1 6) → vx_CI d 184 [.ref v1, .int (vx_i v3)] h (fun r10 h10 => vx_T 1 625 h10 → ((r10 = 0 → vx_W (d + 1) 143 12 [some (.ref v0), some (.ref v1), some (.int (vx_i v2)), some (.int (vx_i (v3 + 1))), v4] [] h10 (vx_RI P)) ∧ (r10 ≠ 0 → (0 ≤ v3 ∧ v3 < 6) ∧ (((vx_J h10 (vx_r v1 8) v3.toNat) = 15 → (0 ≤ v3 ∧ v3 < 6) ∧ (0 ≤ (vx_J h10 (vx_r v1 9) v3.toNat) ∧ (vx_J h10 (vx_r v1 9) v3.toNat) < 16) ∧ vx_CI d 219 [.int (vx_i v2), .int (vx_i ((vx_J h10 (vx_r v0 2) (vx_J h10 (vx_r v1 9) v3.toNat).toNat) + 1))] h10 (fun r16 h16 => vx_T 1 625 h16 → vx_W (d + 1) 143 12 [some (.ref v0), some (.ref v1), some (.int (vx_i r16)), some (.int (vx_i (v3 + 1))), some (.int (vx_i 1))] [] h16 (vx_RI P))) ∧ ((vx_J h10 (vx_r v1 8) v3.toNat) ≠ 15 → (((vx_J h10 v1 2) = ((-1)) → (0 ≤ v3 ∧ v3 < 6) ∧ (0 ≤ (vx_J h10 (vx_r v1 9) v3.toNat) ∧ (vx_J h10 (vx_r v1 9) v3.toNat) < 16) ∧ vx_CI d 219 [.int (vx_i v2), .int (vx_i ((vx_J h10 (vx_r v0 2) (vx_J h10 (vx_r v1 9) v3.toNat).toNat) + 0))] h10 (fun r20 h20 => vx_T 1 625 h20 → vx_W (d + 1) 143 12 [some (.ref v0), some (.ref v1), some (.int (vx_i r20)), some (.int (vx_i (v3 + 1))), some (.int (vx_i 0))] [] h20 (vx_RI P))) ∧ ((vx_J h10 v1 2) ≠ ((-1)) → (0 ≤ v3 ∧ v3 < 6) ∧ (0 ≤ (vx_J h10 (vx_r v1 9) v3.toNat) ∧ (vx_J h10 (vx_r v1 9) v3.toNat) < 16) ∧ vx_CI d 219 [.int (vx_i v2), .int (vx_i ((vx_J h10 (vx_r v0 2) (vx_J h10 (vx_r v1 9) v3.toNat).toNat) + 1))] h10 (fun r23 h23 => vx_T 1 625 h23 → vx_W (d + 1) 143 12 [some (.ref v0), some (.ref v1), some (.int (vx_i r23)), some (.int (vx_i (v3 + 1))), some (.int (vx_i 1))] [] h23 (vx_RI P)))))))))))) : vx_W (d + 1) 143 12 [some (.ref v0), some (.ref v1), some (.int (vx_i v2)), some (.int (vx_i v3)), v4] [] h (vx_RI P) := by
  refine vx_iload_n (n := 3) (q := 13) (by decide +kernel) rfl ?_
  refine vx_aload_n (n := 1) (q := 14) (by decide +kernel) rfl ?_
  refine vx_getI (idx := 60) (kd := 7) (s := 6) (fin := false) (q := 17) (by decide +kernel) (vx_Tk hT ov1) ?_
  obtain ⟨k1, H⟩ := H
  refine vx_icmp_ge (off := 70) (q := 20) (t := 87) (by decide +kernel) k1 (vx_rI_J h v1 6) (fun c2 => ?_) (fun c2 => ?_)
  · replace H := H.1 c2
    refine vx_iload_n (n := 2) (q := 88) (by decide +kernel) rfl ?_
    refine vx_aload_n (n := 0) (q := 89) (by decide +kernel) rfl ?_
    refine vx_getR (b := vx_r v0 2) (idx := 19) (kd := 5) (s := 2) (fin := true) (q := 92) (by decide +kernel) (vx_Tk hT ov0) (vx_Tr hT (kd := 5) ov0 (by decide +kernel) (vx_f5_2 ov0).1) ?_
    refine vx_aload_n (n := 1) (q := 93) (by decide +kernel) rfl ?_
    refine vx_getI (idx := 51) (kd := 7) (s := 0) (fin := false) (q := 96) (by decide +kernel) (vx_Tk hT ov1) ?_
    obtain ⟨k3, H⟩ := H
    refine vx_iaload (z := 16) (q := 97) (by decide +kernel) (vx_Tk hT (vx_f5_2 ov0).2.1) (vx_Tz hT ⟨(vx_f5_2 ov0).2.1.1, (vx_f5_2 ov0).2.2⟩) (vx_ix k3 (by decide)) ?_
    obtain ⟨k4, H⟩ := H
    refine vx_icmp_le (off := 7) (q := 100) (t := 104) (by decide +kernel) k4 (vx_rI_J h (vx_r v0 2) (vx_J h v1 0).toNat) (fun c5 => ?_) (fun c5 => ?_)
    · replace H := H.1 c5
      refine vx_iconst (n := 0) (q := 105) (by decide +kernel) ?_
      refine vx_istore_n (n := 3) (q := 106) (lv' := [some (.ref v0), some (.ref v1), some (.int (vx_i v2)), some (.int (vx_i 0)), v4]) (by decide +kernel) rfl ?_
      refine vx_aload_n (n := 0) (q := 107) (by decide +kernel) rfl ?_
      refine vx_getR (b := vx_r v0 2) (idx := 19) (kd := 5) (s := 2) (fin := true) (q := 110) (by decide +kernel) (vx_Tk hT ov0) (vx_Tr hT (kd := 5) ov0 (by decide +kernel) (vx_f5_2 ov0).1) ?_
      refine vx_aload_n (n := 1) (q := 111) (by decide +kernel) rfl ?_
      refine vx_getI (idx := 51) (kd := 7) (s := 0) (fin := false) (q := 114) (by decide +kernel) (vx_Tk hT ov1) ?_
      refine vx_iload_n (n := 2) (q := 115) (by decide +kernel) rfl ?_
      obtain ⟨k6, H⟩ := H
      refine vx_iastore (z := 16) (q := 116) (by decide +kernel) (vx_Tk hT (vx_f5_2 ov0).2.1) (vx_Tz hT ⟨(vx_f5_2 ov0).2.1.1, (vx_f5_2 ov0).2.2⟩) (vx_ix k6 (by decide)) (fun h7 e7 => ?_)
      have hT7 := vx_TJ hT e7
      replace H := H h7 e7 hT7
      refine vx_iload_n (n := 3) (q := 117) (by decide +kernel) rfl ?_
      refine vx_retZ (q := 118) (by decide +kernel) (Or.inl rfl) ?_
      exact H
    · replace H := H.2 c5
      refine vx_iconst (n := 1) (q := 101) (by decide +kernel) ?_
      refine vx_goto (off := 4) (q := 104) (t := 105) (by decide +kernel) ?_
      refine vx_istore_n (n := 3) (q := 106) (lv' := [some (.ref v0), some (.ref v1), some (.int (vx_i v2)), some (.int (vx_i 1)), v4]) (by decide +kernel) rfl ?_
      refine vx_aload_n (n := 0) (q := 107) (by decide +kernel) rfl ?_
      refine vx_getR (b := vx_r v0 2) (idx := 19) (kd := 5) (s := 2) (fin := true) (q := 110) (by decide +kernel) (vx_Tk hT ov0) (vx_Tr hT (kd := 5) ov0 (by decide +kernel) (vx_f5_2 ov0).1) ?_
      refine vx_aload_n (n := 1) (q := 111) (by decide +kernel) rfl ?_
      refine vx_getI (idx := 51) (kd := 7) (s := 0) (fin := false) (q := 114) (by decide +kernel) (vx_Tk hT ov1) ?_
      refine vx_iload_n (n := 2) (q := 115) (by decide +kernel) rfl ?_
      obtain ⟨k8, H⟩ := H
      refine vx_iastore (z := 16) (q := 116) (by decide +kernel) (vx_Tk hT (vx_f5_2 ov0).2.1) (vx_Tz hT ⟨(vx_f5_2 ov0).2.1.1, (vx_f5_2 ov0).2.2⟩) (vx_ix k8 (by decide)) (fun h9 e9 => ?_)
      have hT9 := vx_TJ hT e9
      replace H := H h9 e9 hT9
      refine vx_iload_n (n := 3) (q := 117) (by decide +kernel) rfl ?_
      refine vx_retZ (q := 118) (by decide +kernel) (Or.inr rfl) ?_
      exact H
  · replace H := H.2 c2
    refine vx_aload_n (n := 1) (q := 21) (by decide +kernel) rfl ?_
    refine vx_iload_n (n := 3) (q := 22) (by decide +kernel) rfl ?_
    refine vx_callI (i := .invokevirtual 63) (how := 3) (cm := 184) (np := 2) (q := 25) (args := [.ref v1, .int (vx_i v3)]) (rest := []) (by decide +kernel) rfl rfl rfl (vx_w2 (w := 2) (ml := 2) rfl (by decide +kernel)) (vx_rcv (kd := 7) (vx_Tk hT ov1) (by decide +kernel)) H (fun r10 h10 hr10 hs10 H => ?_)
    have hT10 := vx_Tsh hT hs10
    replace H := H hT10
    refine vx_if0_eq (off := 56) (q := 28) (t := 81) (by decide +kernel) hr10 (fun c11 => ?_) (fun c11 => ?_)
    · replace H := H.1 c11
      refine vx_iinc (n := 3) (m := 1) (x := v3) (q := 84) (lv' := [some (.ref v0), some (.ref v1), some (.int (vx_i v2)), some (.int (vx_i (v3 + 1))), v4]) (by decide +kernel) rfl rfl ?_
      refine vx_goto (off := (-72)) (q := 87) (t := 12) (by decide +kernel) ?_
      exact H
    · replace H := H.2 c11
      refine vx_aload_n (n := 1) (q := 29) (by decide +kernel) rfl ?_
      refine vx_getR (b := vx_r v1 8) (idx := 80) (kd := 7) (s := 8) (fin := true) (q := 32) (by decide +kernel) (vx_Tk hT10 ov1) (vx_Tr hT10 (kd := 7) ov1 (by decide +kernel) (vx_f7_8 ov1).1) ?_
      refine vx_iload_n (n := 3) (q := 33) (by decide +kernel) rfl ?_
      obtain ⟨k12, H⟩ := H
      refine vx_iaload (z := 6) (q := 34) (by decide +kernel) (vx_Tk hT10 (vx_f7_8 ov1).2.1) (vx_Tz hT10 ⟨(vx_f7_8 ov1).2.1.1, (vx_f7_8 ov1).2.2⟩) (vx_ix k12 (by decide)) ?_
      refine vx_bipush (n := 15) (q := 36) (by decide +kernel) ?_
      refine vx_icmp_eq (off := 11) (q := 39) (t := 47) (by decide +kernel) (vx_rI_J h10 (vx_r v1 8) v3.toNat) (by decide) (fun c13 => ?_) (fun c13 => ?_)
      · replace H := H.1 c13
        refine vx_iconst (n := 1) (q := 48) (by decide +kernel) ?_
        refine vx_goto (off := 4) (q := 51) (t := 52) (by decide +kernel) ?_
        refine vx_istore (n := 4) (q := 54) (lv' := [some (.ref v0), some (.ref v1), some (.int (vx_i v2)), some (.int (vx_i v3)), some (.int (vx_i 1))]) (by decide +kernel) rfl ?_
        refine vx_iload_n (n := 2) (q := 55) (by decide +kernel) rfl ?_
        refine vx_aload_n (n := 0) (q := 56) (by decide +kernel) rfl ?_
        refine vx_getR (b := vx_r v0 2) (idx := 19) (kd := 5) (s := 2) (fin := true) (q := 59) (by decide +kernel) (vx_Tk hT10 ov0) (vx_Tr hT10 (kd := 5) ov0 (by decide +kernel) (vx_f5_2 ov0).1) ?_
        refine vx_aload_n (n := 1) (q := 60) (by decide +kernel) rfl ?_
        refine vx_getR (b := vx_r v1 9) (idx := 67) (kd := 7) (s := 9) (fin := true) (q := 63) (by decide +kernel) (vx_Tk hT10 ov1) (vx_Tr hT10 (kd := 7) ov1 (by decide +kernel) (vx_f7_9 ov1).1) ?_
        refine vx_iload_n (n := 3) (q := 64) (by decide +kernel) rfl ?_
        obtain ⟨k14, H⟩ := H
        refine vx_iaload (z := 6) (q := 65) (by decide +kernel) (vx_Tk hT10 (vx_f7_9 ov1).2.1) (vx_Tz hT10 ⟨(vx_f7_9 ov1).2.1.1, (vx_f7_9 ov1).2.2⟩) (vx_ix k14 (by decide)) ?_
        obtain ⟨k15, H⟩ := H
        refine vx_iaload (z := 16) (q := 66) (by decide +kernel) (vx_Tk hT10 (vx_f5_2 ov0).2.1) (vx_Tz hT10 ⟨(vx_f5_2 ov0).2.1.1, (vx_f5_2 ov0).2.2⟩) (vx_ix k15 (by decide)) ?_
        refine vx_iload (n := 4) (q := 68) (by decide +kernel) rfl ?_
        refine vx_if0_eq (off := 7) (q := 71) (t := 75) (by decide +kernel) (by decide) (fun c => absurd c (by decide)) (fun _ => ?_)
        refine vx_iconst (n := 1) (q := 72) (by decide +kernel) ?_
        refine vx_goto (off := 4) (q := 75) (t := 76) (by decide +kernel) ?_
        refine vx_iadd (q := 77) (by decide +kernel) ?_
        refine vx_callI (i := .invokestatic 93) (how := 4) (cm := 219) (np := 2) (q := 80) (args := [.int (vx_i v2), .int (vx_i ((vx_J h10 (vx_r v0 2) (vx_J h10 (vx_r v1 9) v3.toNat).toNat) + 1))]) (rest := []) (by decide +kernel) rfl rfl rfl (vx_w2 (w := 2) (ml := 2) rfl (by decide +kernel)) rfl H (fun r16 h16 hr16 hs16 H => ?_)
        have hT16 := vx_Tsh hT10 hs16
        replace H := H hT16
        refine vx_istore_n (n := 2) (q := 81) (lv' := [some (.ref v0), some (.ref v1), some (.int (vx_i r16)), some (.int (vx_i v3)), some (.int (vx_i 1))]) (by decide +kernel) rfl ?_
        refine vx_iinc (n := 3) (m := 1) (x := v3) (q := 84) (lv' := [some (.ref v0), some (.ref v1), some (.int (vx_i r16)), some (.int (vx_i (v3 + 1))), some (.int (vx_i 1))]) (by decide +kernel) rfl rfl ?_
        refine vx_goto (off := (-72)) (q := 87) (t := 12) (by decide +kernel) ?_
        exact H
      · replace H := H.2 c13
        refine vx_aload_n (n := 1) (q := 40) (by decide +kernel) rfl ?_
        refine vx_getI (idx := 70) (kd := 7) (s := 2) (fin := false) (q := 43) (by decide +kernel) (vx_Tk hT10 ov1) ?_
        refine vx_iconst (n := (-1)) (q := 44) (by decide +kernel) ?_
        refine vx_icmp_eq (off := 7) (q := 47) (t := 51) (by decide +kernel) (vx_rI_J h10 v1 2) (by decide) (fun c17 => ?_) (fun c17 => ?_)
        · replace H := H.1 c17
          refine vx_iconst (n := 0) (q := 52) (by decide +kernel) ?_
          refine vx_istore (n := 4) (q := 54) (lv' := [some (.ref v0), some (.ref v1), some (.int (vx_i v2)), some (.int (vx_i v3)), some (.int (vx_i 0))]) (by decide +kernel) rfl ?_
          refine vx_iload_n (n := 2) (q := 55) (by decide +kernel) rfl ?_
          refine vx_aload_n (n := 0) (q := 56) (by decide +kernel) rfl ?_
          refine vx_getR (b := vx_r v0 2) (idx := 19) (kd := 5) (s := 2) (fin := true) (q := 59) (by decide +kernel) (vx_Tk hT10 ov0) (vx_Tr hT10 (kd := 5) ov0 (by decide +kernel) (vx_f5_2 ov0).1) ?_
          refine vx_aload_n (n := 1) (q := 60) (by decide +kernel) rfl ?_
          refine vx_getR (b := vx_r v1 9) (idx := 67) (kd := 7) (s := 9) (fin := true) (q := 63) (by decide +kernel) (vx_Tk hT10 ov1) (vx_Tr hT10 (kd := 7) ov1 (by decide +kernel) (vx_f7_9 ov1).1) ?_
          refine vx_iload_n (n := 3) (q := 64) (by decide +kernel) rfl ?_
          obtain ⟨k18, H⟩ := H
          refine vx_iaload (z := 6) (q := 65) (by decide +kernel) (vx_Tk hT10 (vx_f7_9 ov1).2.1) (vx_Tz hT10 ⟨(vx_f7_9 ov1).2.1.1, (vx_f7_9 ov1).2.2⟩) (vx_ix k18 (by decide)) ?_
          obtain ⟨k19, H⟩ := H
          refine vx_iaload (z := 16) (q := 66) (by decide +kernel) (vx_Tk hT10 (vx_f5_2 ov0).2.1) (vx_Tz hT10 ⟨(vx_f5_2 ov0).2.1.1, (vx_f5_2 ov0).2.2⟩) (vx_ix k19 (by decide)) ?_
          refine vx_iload (n := 4) (q := 68) (by decide +kernel) rfl ?_
          refine vx_if0_eq (off := 7) (q := 71) (t := 75) (by decide +kernel) (by decide) (fun _ => ?_) (fun c => absurd c (by decide))
          refine vx_iconst (n := 0) (q := 76) (by decide +kernel) ?_
          refine vx_iadd (q := 77) (by decide +kernel) ?_
          refine vx_callI (i := .invokestatic 93) (how := 4) (cm := 219) (np := 2) (q := 80) (args := [.int (vx_i v2), .int (vx_i ((vx_J h10 (vx_r v0 2) (vx_J h10 (vx_r v1 9) v3.toNat).toNat) + 0))]) (rest := []) (by decide +kernel) rfl rfl rfl (vx_w2 (w := 2) (ml := 2) rfl (by decide +kernel)) rfl H (fun r20 h20 hr20 hs20 H => ?_)
          have hT20 := vx_Tsh hT10 hs20
          replace H := H hT20
          refine vx_istore_n (n := 2) (q := 81) (lv' := [some (.ref v0), some (.ref v1), some (.int (vx_i r20)), some (.int (vx_i v3)), some (.int (vx_i 0))]) (by decide +kernel) rfl ?_
          refine vx_iinc (n := 3) (m := 1) (x := v3) (q := 84) (lv' := [some (.ref v0), some (.ref v1), some (.int (vx_i r20)), some (.int (vx_i (v3 + 1))), some (.int (vx_i 0))]) (by decide +kernel) rfl rfl ?_
          refine vx_goto (off := (-72)) (q := 87) (t := 12) (by decide +kernel) ?_
          exact H
        · replace H := H.2 c17
          refine vx_iconst (n := 1) (q := 48) (by decide +kernel) ?_
          refine vx_goto (off := 4) (q := 51) (t := 52) (by decide +kernel) ?_
          refine vx_istore (n := 4) (q := 54) (lv' := [some (.ref v0), some (.ref v1), some (.int (vx_i v2)), some (.int (vx_i v3)), some (.int (vx_i 1))]) (by decide +kernel) rfl ?_
          refine vx_iload_n (n := 2) (q := 55) (by decide +kernel) rfl ?_
          refine vx_aload_n (n := 0) (q := 56) (by decide +kernel) rfl ?_
          refine vx_getR (b := vx_r v0 2) (idx := 19) (kd := 5) (s := 2) (fin := true) (q := 59) (by decide +kernel) (vx_Tk hT10 ov0) (vx_Tr hT10 (kd := 5) ov0 (by decide +kernel) (vx_f5_2 ov0).1) ?_
          refine vx_aload_n (n := 1) (q := 60) (by decide +kernel) rfl ?_
          refine vx_getR (b := vx_r v1 9) (idx := 67) (kd := 7) (s := 9) (fin := true) (q := 63) (by decide +kernel) (vx_Tk hT10 ov1) (vx_Tr hT10 (kd := 7) ov1 (by decide +kernel) (vx_f7_9 ov1).1) ?_
          refine vx_iload_n (n := 3) (q := 64) (by decide +kernel) rfl ?_
          obtain ⟨k21, H⟩ := H
          refine vx_iaload (z := 6) (q := 65) (by decide +kernel) (vx_Tk hT10 (vx_f7_9 ov1).2.1) (vx_Tz hT10 ⟨(vx_f7_9 ov1).2.1.1, (vx_f7_9 ov1).2.2⟩) (vx_ix k21 (by decide)) ?_
          obtain ⟨k22, H⟩ := H
          refine vx_iaload (z := 16) (q := 66) (by decide +kernel) (vx_Tk hT10 (vx_f5_2 ov0).2.1) (vx_Tz hT10 ⟨(vx_f5_2 ov0).2.1.1, (vx_f5_2 ov0).2.2⟩) (vx_ix k22 (by decide)) ?_
          refine vx_iload (n := 4) (q := 68) (by decide +kernel) rfl ?_
          refine vx_if0_eq (off := 7) (q := 71) (t := 75) (by decide +kernel) (by decide) (fun c => absurd c (by decide)) (fun _ => ?_)
          refine vx_iconst (n := 1) (q := 72) (by decide +kernel) ?_
          refine vx_goto (off := 4) (q := 75) (t := 76) (by decide +kernel) ?_
          refine vx_iadd (q := 77) (by decide +kernel) ?_
          refine vx_callI (i := .invokestatic 93) (how := 4) (cm := 219) (np := 2) (q := 80) (args := [.int (vx_i v2), .int (vx_i ((vx_J h10 (vx_r v0 2) (vx_J h10 (vx_r v1 9) v3.toNat).toNat) + 1))]) (rest := []) (by decide +kernel) rfl rfl rfl (vx_w2 (w := 2) (ml := 2) rfl (by decide +kernel)) rfl H (fun r23 h23 hr23 hs23 H => ?_)
          have hT23 := vx_Tsh hT10 hs23
          replace H := H hT23
          refine vx_istore_n (n := 2) (q := 81) (lv' := [some (.ref v0), some (.ref v1), some (.int (vx_i r23)), some (.int (vx_i v3)), some (.int (vx_i 1))]) (by decide +kernel) rfl ?_
          refine vx_iinc (n := 3) (m := 1) (x := v3) (q := 84) (lv' := [some (.ref v0), some (.ref v1), some (.int (vx_i r23)), some (.int (vx_i (v3 + 1))), some (.int (vx_i 1))]) (by decide +kernel) rfl rfl ?_
          refine vx_goto (off := (-72)) (q := 87) (t := 12) (by decide +kernel) ?_
          exact H
