/-! Printed by my own program (wip/whole/gen_seg.py): walks of methods 105-118 -/
-- RuleHouse$Engine.makeModel(LRuleHouse$Program;)Z
theorem vg_105 {d : Nat} {h : ve_H} {P : Int → ve_H → Prop} {a1 : Nat} (o1 : vx_o 1 625 5 a1) (hT : vx_T 1 625 h) (H : (∀ h1, h1 = ve_sR h 21 6 (some a1) → vx_T 1 625 h1 → vx_CV d 131 [.ref 22] h1 (fun h2 => vx_T 1 625 h2 → (∀ h3, h3 = vx_sJ h2 21 12 0 → vx_T 1 625 h3 → vx_W (d + 1) 105 19 [some (.ref 21), some (.ref a1), some (.int (vx_i 0)), none, none, none] [] h3 (vx_RI P))))) : vx_CI (d + 1) 105 [.ref 21, .ref a1] h P := by
  refine vx_enter (ml := 6) (by decide +kernel) ?_
  show vx_W _ _ 0 [some (.ref 21), some (.ref a1), none, none, none, none] [] h _
  refine vx_aload_n (n := 0) (q := 1) (by decide +kernel) rfl ?_
  refine vx_aload_n (n := 1) (q := 2) (by decide +kernel) rfl ?_
  refine vx_putR (idx := 43) (kd := 4) (s := 6) (fin := false) (q := 5) (by decide +kernel) (vx_Tk hT (by decide +kernel)) (fun h1 e1 => ?_)
  have hT1 := vx_TR hT e1 ⟨vx_Tk hT (kd := 4) (by decide +kernel), (by decide +kernel)⟩
  replace H := H h1 e1 hT1
  refine vx_aload_n (n := 0) (q := 6) (by decide +kernel) rfl ?_
  refine vx_getR (b := 22) (idx := 12) (kd := 4) (s := 0) (fin := true) (q := 9) (by decide +kernel) (vx_Tk hT1 (by decide +kernel)) (vx_Tr hT1 (kd := 4) (by decide +kernel) (by decide +kernel) (by decide +kernel)) ?_
  refine vx_callV (i := .invokevirtual 40) (how := 3) (cm := 131) (np := 1) (q := 12) (args := [.ref 22]) (rest := []) (by decide +kernel) rfl rfl rfl (vx_w2 (w := 1) (ml := 1) rfl (by decide +kernel)) (vx_rcv (kd := 8) (vx_Tk hT1 (by decide +kernel)) (by decide +kernel)) H (fun h2 hs2 H => ?_)
  have hT2 := vx_Tsh hT1 hs2
  replace H := H hT2
  refine vx_aload_n (n := 0) (q := 13) (by decide +kernel) rfl ?_
  refine vx_iconst (n := 0) (q := 14) (by decide +kernel) ?_
  refine vx_putZ (idx := 47) (kd := 4) (s := 12) (fin := false) (q := 17) (by decide +kernel) (vx_Tk hT2 (by decide +kernel)) (Or.inl rfl) (fun h3 e3 => ?_)
  have hT3 := vx_TJ hT2 e3
  replace H := H h3 e3 hT3
  refine vx_iconst (n := 0) (q := 18) (by decide +kernel) ?_
  refine vx_istore_n (n := 2) (q := 19) (lv' := [some (.ref 21), some (.ref a1), some (.int (vx_i 0)), none, none, none]) (by decide +kernel) rfl ?_
  exact H
theorem vg_105_19 {d : Nat} {h : ve_H} {P : Int → ve_H → Prop} {v1 : Nat} (ov1 : vx_o 1 625 5 v1) {v2 : Int} {v3 : Option Value} {v4 : Option Value} {v5 : Option Value} (hT : vx_T 1 625 h) (H : (∃ b1, ve_R h 21 6 = some b1 ∧ vx_o 1 625 5 b1 ∧ (vx_rI v2) ∧ (((vx_J h b1 8) ≤ v2 → vx_CV d 178 [.ref 23] h (fun h4 => vx_T 1 625 h4 → (((vx_J h4 21 12) ≠ 0 → P 0 h4) ∧ ((vx_J h4 21 12) = 0 → P 1 h4)))) ∧ (v2 < (vx_J h b1 8) → (((vx_J h 21 12) ≠ 0 → vx_CV d 178 [.ref 23] h (fun h7 => vx_T 1 625 h7 → (((vx_J h7 21 12) ≠ 0 → P 0 h7) ∧ ((vx_J h7 21 12) = 0 → P 1 h7)))) ∧ ((vx_J h 21 12) = 0 → (∀ h9, h9 = vx_sJ h 21 9 v2 → vx_T 1 625 h9 → vx_CV d 106 [.ref 21] h9 (fun h10 => vx_T 1 625 h10 → vx_W (d + 1) 105 51 [some (.ref 21), some (.ref v1), some (.int (vx_i v2)), some (.int (vx_i ((-1)))), some (.int (vx_i 1)), v5] [] h10 (vx_RI P))))))))) : vx_W (d + 1) 105 19 [some (.ref 21), some (.ref v1), some (.int (vx_i v2)), v3, v4, v5] [] h (vx_RI P) := by
  refine vx_iload_n (n := 2) (q := 20) (by decide +kernel) rfl ?_
  refine vx_aload_n (n := 0) (q := 21) (by decide +kernel) rfl ?_
  obtain ⟨b1, eb1, ob1, H⟩ := H
  refine vx_getR (b := b1) (idx := 43) (kd := 4) (s := 6) (fin := false) (q := 24) (by decide +kernel) (vx_Tk hT (by decide +kernel)) eb1 ?_
  refine vx_getI (idx := 51) (kd := 5) (s := 8) (fin := false) (q := 27) (by decide +kernel) (vx_Tk hT ob1) ?_
  obtain ⟨k2, H⟩ := H
  refine vx_icmp_ge (off := 117) (q := 30) (t := 144) (by decide +kernel) k2 (vx_rI_J h b1 8) (fun c3 => ?_) (fun c3 => ?_)
  · replace H := H.1 c3
    refine vx_aload_n (n := 0) (q := 145) (by decide +kernel) rfl ?_
    refine vx_getR (b := 22) (idx := 12) (kd := 4) (s := 0) (fin := true) (q := 148) (by decide +kernel) (vx_Tk hT (by decide +kernel)) (vx_Tr hT (kd := 4) (by decide +kernel) (by decide +kernel) (by decide +kernel)) ?_
    refine vx_getR (b := 23) (idx := 63) (kd := 8) (s := 0) (fin := true) (q := 151) (by decide +kernel) (vx_Tk hT (by decide +kernel)) (vx_Tr hT (kd := 8) (by decide +kernel) (by decide +kernel) (by decide +kernel)) ?_
    refine vx_callV (i := .invokevirtual 83) (how := 3) (cm := 178) (np := 1) (q := 154) (args := [.ref 23]) (rest := []) (by decide +kernel) rfl rfl rfl (vx_w2 (w := 1) (ml := 4) rfl (by decide +kernel)) (vx_rcv (kd := 6) (vx_Tk hT (by decide +kernel)) (by decide +kernel)) H (fun h4 hs4 H => ?_)
    have hT4 := vx_Tsh hT hs4
    replace H := H hT4
    refine vx_aload_n (n := 0) (q := 155) (by decide +kernel) rfl ?_
    refine vx_getZ (idx := 47) (kd := 4) (s := 12) (fin := false) (q := 158) (by decide +kernel) (vx_Tk hT4 (by decide +kernel)) ?_
    refine vx_if0_ne (off := 7) (q := 161) (t := 165) (by decide +kernel) (vx_rI_J h4 21 12) (fun c5 => ?_) (fun c5 => ?_)
    · replace H := H.1 c5
      refine vx_iconst (n := 0) (q := 166) (by decide +kernel) ?_
      refine vx_retZ (q := 167) (by decide +kernel) (Or.inl rfl) ?_
      exact H
    · replace H := H.2 c5
      refine vx_iconst (n := 1) (q := 162) (by decide +kernel) ?_
      refine vx_goto (off := 4) (q := 165) (t := 166) (by decide +kernel) ?_
      refine vx_retZ (q := 167) (by decide +kernel) (Or.inr rfl) ?_
      exact H
  · replace H := H.2 c3
    refine vx_aload_n (n := 0) (q := 31) (by decide +kernel) rfl ?_
    refine vx_getZ (idx := 47) (kd := 4) (s := 12) (fin := false) (q := 34) (by decide +kernel) (vx_Tk hT (by decide +kernel)) ?_
    refine vx_if0_ne (off := 110) (q := 37) (t := 144) (by decide +kernel) (vx_rI_J h 21 12) (fun c6 => ?_) (fun c6 => ?_)
    · replace H := H.1 c6
      refine vx_aload_n (n := 0) (q := 145) (by decide +kernel) rfl ?_
      refine vx_getR (b := 22) (idx := 12) (kd := 4) (s := 0) (fin := true) (q := 148) (by decide +kernel) (vx_Tk hT (by decide +kernel)) (vx_Tr hT (kd := 4) (by decide +kernel) (by decide +kernel) (by decide +kernel)) ?_
      refine vx_getR (b := 23) (idx := 63) (kd := 8) (s := 0) (fin := true) (q := 151) (by decide +kernel) (vx_Tk hT (by decide +kernel)) (vx_Tr hT (kd := 8) (by decide +kernel) (by decide +kernel) (by decide +kernel)) ?_
      refine vx_callV (i := .invokevirtual 83) (how := 3) (cm := 178) (np := 1) (q := 154) (args := [.ref 23]) (rest := []) (by decide +kernel) rfl rfl rfl (vx_w2 (w := 1) (ml := 4) rfl (by decide +kernel)) (vx_rcv (kd := 6) (vx_Tk hT (by decide +kernel)) (by decide +kernel)) H (fun h7 hs7 H => ?_)
      have hT7 := vx_Tsh hT hs7
      replace H := H hT7
      refine vx_aload_n (n := 0) (q := 155) (by decide +kernel) rfl ?_
      refine vx_getZ (idx := 47) (kd := 4) (s := 12) (fin := false) (q := 158) (by decide +kernel) (vx_Tk hT7 (by decide +kernel)) ?_
      refine vx_if0_ne (off := 7) (q := 161) (t := 165) (by decide +kernel) (vx_rI_J h7 21 12) (fun c8 => ?_) (fun c8 => ?_)
      · replace H := H.1 c8
        refine vx_iconst (n := 0) (q := 166) (by decide +kernel) ?_
        refine vx_retZ (q := 167) (by decide +kernel) (Or.inl rfl) ?_
        exact H
      · replace H := H.2 c8
        refine vx_iconst (n := 1) (q := 162) (by decide +kernel) ?_
        refine vx_goto (off := 4) (q := 165) (t := 166) (by decide +kernel) ?_
        refine vx_retZ (q := 167) (by decide +kernel) (Or.inr rfl) ?_
        exact H
    · replace H := H.2 c6
      refine vx_aload_n (n := 0) (q := 38) (by decide +kernel) rfl ?_
      refine vx_iload_n (n := 2) (q := 39) (by decide +kernel) rfl ?_
      refine vx_putI (idx := 57) (kd := 4) (s := 9) (fin := false) (q := 42) (by decide +kernel) (vx_Tk hT (by decide +kernel)) (fun h9 e9 => ?_)
      have hT9 := vx_TJ hT e9
      replace H := H h9 e9 hT9
      refine vx_aload_n (n := 0) (q := 43) (by decide +kernel) rfl ?_
      refine vx_callV (i := .invokevirtual 60) (how := 3) (cm := 106) (np := 1) (q := 46) (args := [.ref 21]) (rest := []) (by decide +kernel) rfl rfl rfl (vx_w2 (w := 1) (ml := 3) rfl (by decide +kernel)) (vx_rcv (kd := 4) (vx_Tk hT9 (by decide +kernel)) (by decide +kernel)) H (fun h10 hs10 H => ?_)
      have hT10 := vx_Tsh hT9 hs10
      replace H := H hT10
      refine vx_iconst (n := (-1)) (q := 47) (by decide +kernel) ?_
      refine vx_istore_n (n := 3) (q := 48) (lv' := [some (.ref 21), some (.ref v1), some (.int (vx_i v2)), some (.int (vx_i ((-1)))), v4, v5]) (by decide +kernel) rfl ?_
      refine vx_iconst (n := 1) (q := 49) (by decide +kernel) ?_
      refine vx_istore (n := 4) (q := 51) (lv' := [some (.ref 21), some (.ref v1), some (.int (vx_i v2)), some (.int (vx_i ((-1)))), some (.int (vx_i 1)), v5]) (by decide +kernel) rfl ?_
      exact H
theorem vg_105_51 {d : Nat} {h : ve_H} {P : Int → ve_H → Prop} {v1 : Nat} (ov1 : vx_o 1 625 5 v1) {v2 : Int} {v3 : Int} {v4 : Int} {v5 : Option Value} (hT : vx_T 1 625 h) (H : (vx_rI v4) ∧ ((201 < v4 → vx_W (d + 1) 105 19 [some (.ref 21), some (.ref v1), some (.int (vx_i (v2 + 1))), some (.int (vx_i v3)), some (.int (vx_i v4)), v5] [] h (vx_RI P)) ∧ (v4 ≤ 201 → (vx_rI v3) ∧ ((v3 = (vx_J h 23 4) → vx_W (d + 1) 105 19 [some (.ref 21), some (.ref v1), some (.int (vx_i (v2 + 1))), some (.int (vx_i v3)), some (.int (vx_i v4)), v5] [] h (vx_RI P)) ∧ (v3 ≠ (vx_J h 23 4) → (∀ h5, h5 = vx_sJ h 21 10 v4 → vx_T 1 625 h5 → vx_W (d + 1) 105 93 [some (.ref 21), some (.ref v1), some (.int (vx_i v2)), some (.int (vx_i (vx_J h5 23 4))), some (.int (vx_i v4)), some (.int (vx_i 0))] [] h5 (vx_RI P))))))) : vx_W (d + 1) 105 51 [some (.ref 21), some (.ref v1), some (.int (vx_i v2)), some (.int (vx_i v3)), some (.int (vx_i v4)), v5] [] h (vx_RI P) := by
  refine vx_iload (n := 4) (q := 53) (by decide +kernel) rfl ?_
  refine vx_sipush (n := 201) (q := 56) (by decide +kernel) ?_
  obtain ⟨k1, H⟩ := H
  refine vx_icmp_gt (off := 82) (q := 59) (t := 138) (by decide +kernel) k1 (by decide) (fun c2 => ?_) (fun c2 => ?_)
  · replace H := H.1 c2
    refine vx_iinc (n := 2) (m := 1) (x := v2) (q := 141) (lv' := [some (.ref 21), some (.ref v1), some (.int (vx_i (v2 + 1))), some (.int (vx_i v3)), some (.int (vx_i v4)), v5]) (by decide +kernel) rfl rfl ?_
    refine vx_goto (off := (-122)) (q := 144) (t := 19) (by decide +kernel) ?_
    exact H
  · replace H := H.2 c2
    refine vx_iload_n (n := 3) (q := 60) (by decide +kernel) rfl ?_
    refine vx_aload_n (n := 0) (q := 61) (by decide +kernel) rfl ?_
    refine vx_getR (b := 22) (idx := 12) (kd := 4) (s := 0) (fin := true) (q := 64) (by decide +kernel) (vx_Tk hT (by decide +kernel)) (vx_Tr hT (kd := 4) (by decide +kernel) (by decide +kernel) (by decide +kernel)) ?_
    refine vx_getR (b := 23) (idx := 63) (kd := 8) (s := 0) (fin := true) (q := 67) (by decide +kernel) (vx_Tk hT (by decide +kernel)) (vx_Tr hT (kd := 8) (by decide +kernel) (by decide +kernel) (by decide +kernel)) ?_
    refine vx_getI (idx := 66) (kd := 6) (s := 4) (fin := false) (q := 70) (by decide +kernel) (vx_Tk hT (by decide +kernel)) ?_
    obtain ⟨k3, H⟩ := H
    refine vx_icmp_eq (off := 68) (q := 73) (t := 138) (by decide +kernel) k3 (vx_rI_J h 23 4) (fun c4 => ?_) (fun c4 => ?_)
    · replace H := H.1 c4
      refine vx_iinc (n := 2) (m := 1) (x := v2) (q := 141) (lv' := [some (.ref 21), some (.ref v1), some (.int (vx_i (v2 + 1))), some (.int (vx_i v3)), some (.int (vx_i v4)), v5]) (by decide +kernel) rfl rfl ?_
      refine vx_goto (off := (-122)) (q := 144) (t := 19) (by decide +kernel) ?_
      exact H
    · replace H := H.2 c4
      refine vx_aload_n (n := 0) (q := 74) (by decide +kernel) rfl ?_
      refine vx_iload (n := 4) (q := 76) (by decide +kernel) rfl ?_
      refine vx_putI (idx := 69) (kd := 4) (s := 10) (fin := false) (q := 79) (by decide +kernel) (vx_Tk hT (by decide +kernel)) (fun h5 e5 => ?_)
      have hT5 := vx_TJ hT e5
      replace H := H h5 e5 hT5
      refine vx_aload_n (n := 0) (q := 80) (by decide +kernel) rfl ?_
      refine vx_getR (b := 22) (idx := 12) (kd := 4) (s := 0) (fin := true) (q := 83) (by decide +kernel) (vx_Tk hT5 (by decide +kernel)) (vx_Tr hT5 (kd := 4) (by decide +kernel) (by decide +kernel) (by decide +kernel)) ?_
      refine vx_getR (b := 23) (idx := 63) (kd := 8) (s := 0) (fin := true) (q := 86) (by decide +kernel) (vx_Tk hT5 (by decide +kernel)) (vx_Tr hT5 (kd := 8) (by decide +kernel) (by decide +kernel) (by decide +kernel)) ?_
      refine vx_getI (idx := 66) (kd := 6) (s := 4) (fin := false) (q := 89) (by decide +kernel) (vx_Tk hT5 (by decide +kernel)) ?_
      refine vx_istore_n (n := 3) (q := 90) (lv' := [some (.ref 21), some (.ref v1), some (.int (vx_i v2)), some (.int (vx_i (vx_J h5 23 4))), some (.int (vx_i v4)), v5]) (by decide +kernel) rfl ?_
      refine vx_iconst (n := 0) (q := 91) (by decide +kernel) ?_
      refine vx_istore (n := 5) (q := 93) (lv' := [some (.ref 21), some (.ref v1), some (.int (vx_i v2)), some (.int (vx_i (vx_J h5 23 4))), some (.int (vx_i v4)), some (.int (vx_i 0))]) (by decide +kernel) rfl ?_
      exact H
theorem vg_105_93 {d : Nat} {h : ve_H} {P : Int → ve_H → Prop} {v1 : Nat} (ov1 : vx_o 1 625 5 v1) {v2 : Int} {v3 : Int} {v4 : Int} {v5 : Int} (hT : vx_T 1 625 h) (H : (∃ b1, ve_R h 21 6 = some b1 ∧ vx_o 1 625 5 b1 ∧ (vx_rI v5) ∧ (((vx_J h b1 7) ≤ v5 → vx_W (d + 1) 105 51 [some (.ref 21), some (.ref v1), some (.int (vx_i v2)), some (.int (vx_i v3)), some (.int (vx_i (v4 + 1))), some (.int (vx_i v5))] [] h (vx_RI P)) ∧ (v5 < (vx_J h b1 7) → (((vx_J h 21 12) ≠ 0 → vx_W (d + 1) 105 51 [some (.ref 21), some (.ref v1), some (.int (vx_i v2)), some (.int (vx_i v3)), some (.int (vx_i (v4 + 1))), some (.int (vx_i v5))] [] h (vx_RI P)) ∧ ((vx_J h 21 12) = 0 → (0 ≤ v5 ∧ v5 < 31) ∧ vx_CV d 107 [.ref 21, .ref (vx_r (vx_r b1 4) v5.toNat)] h (fun h6 => vx_T 1 625 h6 → vx_W (d + 1) 105 93 [some (.ref 21), some (.ref v1), some (.int (vx_i v2)), some (.int (vx_i v3)), some (.int (vx_i v4)), some (.int (vx_i (v5 + 1)))] [] h6 (vx_RI P)))))))) : vx_W (d + 1) 105 93 [some (.ref 21), some (.ref v1), some (.int (vx_i v2)), some (.int (vx_i v3)), some (.int (vx_i v4)), some (.int (vx_i v5))] [] h (vx_RI P) := by
  refine vx_iload (n := 5) (q := 95) (by decide +kernel) rfl ?_
  refine vx_aload_n (n := 0) (q := 96) (by decide +kernel) rfl ?_
  obtain ⟨b1, eb1, ob1, H⟩ := H
  refine vx_getR (b := b1) (idx := 43) (kd := 4) (s := 6) (fin := false) (q := 99) (by decide +kernel) (vx_Tk hT (by decide +kernel)) eb1 ?_
  refine vx_getI (idx := 72) (kd := 5) (s := 7) (fin := false) (q := 102) (by decide +kernel) (vx_Tk hT ob1) ?_
  obtain ⟨k2, H⟩ := H
  refine vx_icmp_ge (off := 30) (q := 105) (t := 132) (by decide +kernel) k2 (vx_rI_J h b1 7) (fun c3 => ?_) (fun c3 => ?_)
  · replace H := H.1 c3
    refine vx_iinc (n := 4) (m := 1) (x := v4) (q := 135) (lv' := [some (.ref 21), some (.ref v1), some (.int (vx_i v2)), some (.int (vx_i v3)), some (.int (vx_i (v4 + 1))), some (.int (vx_i v5))]) (by decide +kernel) rfl rfl ?_
    refine vx_goto (off := (-84)) (q := 138) (t := 51) (by decide +kernel) ?_
    exact H
  · replace H := H.2 c3
    refine vx_aload_n (n := 0) (q := 106) (by decide +kernel) rfl ?_
    refine vx_getZ (idx := 47) (kd := 4) (s := 12) (fin := false) (q := 109) (by decide +kernel) (vx_Tk hT (by decide +kernel)) ?_
    refine vx_if0_ne (off := 23) (q := 112) (t := 132) (by decide +kernel) (vx_rI_J h 21 12) (fun c4 => ?_) (fun c4 => ?_)
    · replace H := H.1 c4
      refine vx_iinc (n := 4) (m := 1) (x := v4) (q := 135) (lv' := [some (.ref 21), some (.ref v1), some (.int (vx_i v2)), some (.int (vx_i v3)), some (.int (vx_i (v4 + 1))), some (.int (vx_i v5))]) (by decide +kernel) rfl rfl ?_
      refine vx_goto (off := (-84)) (q := 138) (t := 51) (by decide +kernel) ?_
      exact H
    · replace H := H.2 c4
      refine vx_aload_n (n := 0) (q := 113) (by decide +kernel) rfl ?_
      refine vx_aload_n (n := 0) (q := 114) (by decide +kernel) rfl ?_
      refine vx_getR (b := b1) (idx := 43) (kd := 4) (s := 6) (fin := false) (q := 117) (by decide +kernel) (vx_Tk hT (by decide +kernel)) eb1 ?_
      refine vx_getR (b := vx_r b1 4) (idx := 75) (kd := 5) (s := 4) (fin := true) (q := 120) (by decide +kernel) (vx_Tk hT ob1) (vx_Tr hT (kd := 5) ob1 (by decide +kernel) (vx_f5_4 ob1).1) ?_
      refine vx_iload (n := 5) (q := 122) (by decide +kernel) rfl ?_
      obtain ⟨k5, H⟩ := H
      refine vx_aaload (b := vx_r (vx_r b1 4) v5.toNat) (z := 31) (q := 123) (by decide +kernel) (vx_Tk hT (vx_f5_4 ob1).2.1) (vx_Tz hT ⟨(vx_f5_4 ob1).2.1.1, (vx_f5_4 ob1).2.2⟩) (vx_ix k5 (by decide)) (vx_Tr hT (kd := 24) (vx_f5_4 ob1).2.1 (vx_fz24 (vx_tn k5)) (vx_f24 (vx_f5_4 ob1).2.1 (vx_tn k5)).1) ?_
      refine vx_callV (i := .invokevirtual 79) (how := 3) (cm := 107) (np := 2) (q := 126) (args := [.ref 21, .ref (vx_r (vx_r b1 4) v5.toNat)]) (rest := []) (by decide +kernel) rfl rfl rfl (vx_w2 (w := 2) (ml := 5) rfl (by decide +kernel)) (vx_rcv (kd := 4) (vx_Tk hT (by decide +kernel)) (by decide +kernel)) H (fun h6 hs6 H => ?_)
      have hT6 := vx_Tsh hT hs6
      replace H := H hT6
      refine vx_iinc (n := 5) (m := 1) (x := v5) (q := 129) (lv' := [some (.ref 21), some (.ref v1), some (.int (vx_i v2)), some (.int (vx_i v3)), some (.int (vx_i v4)), some (.int (vx_i (v5 + 1)))]) (by decide +kernel) rfl rfl ?_
      refine vx_goto (off := (-36)) (q := 132) (t := 93) (by decide +kernel) ?_
      exact H
-- RuleHouse$Engine.addFacts()V
theorem vg_106 {d : Nat} {h : ve_H} {P : ve_H → Prop}  (hT : vx_T 1 625 h) (H : (∀ h1, h1 = vx_sJ h 21 10 0 → vx_T 1 625 h1 → vx_W (d + 1) 106 7 [some (.ref 21), some (.int (vx_i 0)), none] [] h1 (vx_RV P))) : vx_CV (d + 1) 106 [.ref 21] h P := by
  refine vx_enter (ml := 3) (by decide +kernel) ?_
  show vx_W _ _ 0 [some (.ref 21), none, none] [] h _
  refine vx_aload_n (n := 0) (q := 1) (by decide +kernel) rfl ?_
  refine vx_iconst (n := 0) (q := 2) (by decide +kernel) ?_
  refine vx_putI (idx := 69) (kd := 4) (s := 10) (fin := false) (q := 5) (by decide +kernel) (vx_Tk hT (by decide +kernel)) (fun h1 e1 => ?_)
  have hT1 := vx_TJ hT e1
  replace H := H h1 e1 hT1
  refine vx_iconst (n := 0) (q := 6) (by decide +kernel) ?_
  refine vx_istore_n (n := 1) (q := 7) (lv' := [some (.ref 21), some (.int (vx_i 0)), none]) (by decide +kernel) rfl ?_
  exact H
theorem vg_106_7 {d : Nat} {h : ve_H} {P : ve_H → Prop} {v1 : Int} {v2 : Option Value} (hT : vx_T 1 625 h) (H : (∃ b1, ve_R h 21 6 = some b1 ∧ vx_o 1 625 5 b1 ∧ (vx_rI v1) ∧ (((vx_J h (vx_r b1 5) 4) ≤ v1 → P h) ∧ (v1 < (vx_J h (vx_r b1 5) 4) → (0 ≤ (v1 * 5) ∧ (v1 * 5) < (vx_za (vx_r (vx_r b1 5) 1))) ∧ (0 ≤ (vx_K h (vx_r (vx_r b1 5) 1) (v1 * 5).toNat) ∧ (vx_K h (vx_r (vx_r b1 5) 1) (v1 * 5).toNat) < 16) ∧ (((vx_J h (vx_r b1 2) (vx_K h (vx_r (vx_r b1 5) 1) (v1 * 5).toNat).toNat) ≠ (vx_J h 21 9) → vx_W (d + 1) 106 7 [some (.ref 21), some (.int (vx_i (v1 + 1))), some (.int (vx_i (vx_K h (vx_r (vx_r b1 5) 1) (v1 * 5).toNat)))] [] h (vx_RV P)) ∧ ((vx_J h (vx_r b1 2) (vx_K h (vx_r (vx_r b1 5) 1) (v1 * 5).toNat).toNat) = (vx_J h 21 9) → ((0 : Int) ≤ 5 ∧ (0 : Int) ≤ (v1 * 5) ∧ (0 : Int) ≤ 0 ∧ ((v1 * 5) : Int) + 5 ≤ ((vx_za (vx_r (vx_r b1 5) 1)) : Nat) ∧ (0 : Int) + 5 ≤ (8 : Nat)) ∧ (∀ h7, h7 = ve_cp h (vx_r (vx_r b1 5) 1) (v1 * 5).toNat 32 0 h 5 → vx_T 1 625 h7 → vx_CV d 113 [.ref 21] h7 (fun h9 => vx_T 1 625 h9 → vx_W (d + 1) 106 7 [some (.ref 21), some (.int (vx_i (v1 + 1))), some (.int (vx_i (vx_K h (vx_r (vx_r b1 5) 1) (v1 * 5).toNat)))] [] h9 (vx_RV P))))))))) : vx_W (d + 1) 106 7 [some (.ref 21), some (.int (vx_i v1)), v2] [] h (vx_RV P) := by
  refine vx_iload_n (n := 1) (q := 8) (by decide +kernel) rfl ?_
  refine vx_aload_n (n := 0) (q := 9) (by decide +kernel) rfl ?_
  obtain ⟨b1, eb1, ob1, H⟩ := H
  refine vx_getR (b := b1) (idx := 43) (kd := 4) (s := 6) (fin := false) (q := 12) (by decide +kernel) (vx_Tk hT (by decide +kernel)) eb1 ?_
  refine vx_getR (b := vx_r b1 5) (idx := 86) (kd := 5) (s := 5) (fin := true) (q := 15) (by decide +kernel) (vx_Tk hT ob1) (vx_Tr hT (kd := 5) ob1 (by decide +kernel) (vx_f5_5 ob1).1) ?_
  refine vx_getI (idx := 66) (kd := 6) (s := 4) (fin := false) (q := 18) (by decide +kernel) (vx_Tk hT (vx_f5_5 ob1).2) ?_
  obtain ⟨k2, H⟩ := H
  refine vx_icmp_ge (off := 67) (q := 21) (t := 85) (by decide +kernel) k2 (vx_rI_J h (vx_r b1 5) 4) (fun c3 => ?_) (fun c3 => ?_)
  · replace H := H.1 c3
    refine vx_retV (q := 86) (by decide +kernel) ?_
    exact H
  · replace H := H.2 c3
    refine vx_aload_n (n := 0) (q := 22) (by decide +kernel) rfl ?_
    refine vx_getR (b := b1) (idx := 43) (kd := 4) (s := 6) (fin := false) (q := 25) (by decide +kernel) (vx_Tk hT (by decide +kernel)) eb1 ?_
    refine vx_getR (b := vx_r b1 5) (idx := 86) (kd := 5) (s := 5) (fin := true) (q := 28) (by decide +kernel) (vx_Tk hT ob1) (vx_Tr hT (kd := 5) ob1 (by decide +kernel) (vx_f5_5 ob1).1) ?_
    refine vx_getR (b := vx_r (vx_r b1 5) 1) (idx := 89) (kd := 6) (s := 1) (fin := true) (q := 31) (by decide +kernel) (vx_Tk hT (vx_f5_5 ob1).2) (vx_Tr hT (kd := 6) (vx_f5_5 ob1).2 (by decide +kernel) (vx_f6_1 (vx_f5_5 ob1).2).1) ?_
    refine vx_iload_n (n := 1) (q := 32) (by decide +kernel) rfl ?_
    refine vx_iconst (n := 5) (q := 33) (by decide +kernel) ?_
    refine vx_imul (q := 34) (by decide +kernel) ?_
    obtain ⟨k4, H⟩ := H
    refine vx_laload (z := (vx_za (vx_r (vx_r b1 5) 1))) (q := 35) (by decide +kernel) (vx_Tk hT (vx_f6_1 (vx_f5_5 ob1).2).2) (vx_Tz hT ⟨(vx_f6_1 (vx_f5_5 ob1).2).2.1, rfl⟩) (vx_ix k4 (vx_za_lt _)) ?_
    refine vx_l2i (q := 36) (by decide +kernel) ?_
    refine vx_istore_n (n := 2) (q := 37) (lv' := [some (.ref 21), some (.int (vx_i v1)), some (.int (vx_i (vx_K h (vx_r (vx_r b1 5) 1) (v1 * 5).toNat)))]) (by decide +kernel) rfl ?_
    refine vx_aload_n (n := 0) (q := 38) (by decide +kernel) rfl ?_
    refine vx_getR (b := b1) (idx := 43) (kd := 4) (s := 6) (fin := false) (q := 41) (by decide +kernel) (vx_Tk hT (by decide +kernel)) eb1 ?_
    refine vx_getR (b := vx_r b1 2) (idx := 92) (kd := 5) (s := 2) (fin := true) (q := 44) (by decide +kernel) (vx_Tk hT ob1) (vx_Tr hT (kd := 5) ob1 (by decide +kernel) (vx_f5_2 ob1).1) ?_
    refine vx_iload_n (n := 2) (q := 45) (by decide +kernel) rfl ?_
    obtain ⟨k5, H⟩ := H
    refine vx_iaload (z := 16) (q := 46) (by decide +kernel) (vx_Tk hT (vx_f5_2 ob1).2.1) (vx_Tz hT ⟨(vx_f5_2 ob1).2.1.1, (vx_f5_2 ob1).2.2⟩) (vx_ix k5 (by decide)) ?_
    refine vx_aload_n (n := 0) (q := 47) (by decide +kernel) rfl ?_
    refine vx_getI (idx := 57) (kd := 4) (s := 9) (fin := false) (q := 50) (by decide +kernel) (vx_Tk hT (by decide +kernel)) ?_
    refine vx_icmp_ne (off := 29) (q := 53) (t := 79) (by decide +kernel) (vx_rI_J h (vx_r b1 2) (vx_K h (vx_r (vx_r b1 5) 1) (v1 * 5).toNat).toNat) (vx_rI_J h 21 9) (fun c6 => ?_) (fun c6 => ?_)
    · replace H := H.1 c6
      refine vx_iinc (n := 1) (m := 1) (x := v1) (q := 82) (lv' := [some (.ref 21), some (.int (vx_i (v1 + 1))), some (.int (vx_i (vx_K h (vx_r (vx_r b1 5) 1) (v1 * 5).toNat)))]) (by decide +kernel) rfl rfl ?_
      refine vx_goto (off := (-75)) (q := 85) (t := 7) (by decide +kernel) ?_
      exact H
    · replace H := H.2 c6
      refine vx_aload_n (n := 0) (q := 54) (by decide +kernel) rfl ?_
      refine vx_getR (b := b1) (idx := 43) (kd := 4) (s := 6) (fin := false) (q := 57) (by decide +kernel) (vx_Tk hT (by decide +kernel)) eb1 ?_
      refine vx_getR (b := vx_r b1 5) (idx := 86) (kd := 5) (s := 5) (fin := true) (q := 60) (by decide +kernel) (vx_Tk hT ob1) (vx_Tr hT (kd := 5) ob1 (by decide +kernel) (vx_f5_5 ob1).1) ?_
      refine vx_getR (b := vx_r (vx_r b1 5) 1) (idx := 89) (kd := 6) (s := 1) (fin := true) (q := 63) (by decide +kernel) (vx_Tk hT (vx_f5_5 ob1).2) (vx_Tr hT (kd := 6) (vx_f5_5 ob1).2 (by decide +kernel) (vx_f6_1 (vx_f5_5 ob1).2).1) ?_
      refine vx_iload_n (n := 1) (q := 64) (by decide +kernel) rfl ?_
      refine vx_iconst (n := 5) (q := 65) (by decide +kernel) ?_
      refine vx_imul (q := 66) (by decide +kernel) ?_
      refine vx_aload_n (n := 0) (q := 67) (by decide +kernel) rfl ?_
      refine vx_getR (b := 32) (idx := 22) (kd := 4) (s := 2) (fin := true) (q := 70) (by decide +kernel) (vx_Tk hT (by decide +kernel)) (vx_Tr hT (kd := 4) (by decide +kernel) (by decide +kernel) (by decide +kernel)) ?_
      refine vx_iconst (n := 0) (q := 71) (by decide +kernel) ?_
      refine vx_iconst (n := 5) (q := 72) (by decide +kernel) ?_
      obtain ⟨k8, H⟩ := H
      refine vx_acopy (i := .invokestatic 95) (np := 5) (cm := 0) (q := 75) (z1 := (vx_za (vx_r (vx_r b1 5) 1))) (z2 := 8) (by decide +kernel) (vx_Tk hT (vx_f6_1 (vx_f5_5 ob1).2).2) (vx_Tk hT (by decide +kernel)) (vx_Tz hT ⟨(vx_f6_1 (vx_f5_5 ob1).2).2.1, rfl⟩) (vx_Tz hT (by decide +kernel)) (vx_cx k8 (vx_za_lt _) (by decide)) rfl (fun h7 e7 => ?_)
      have hT7 := vx_Tcp hT e7
      replace H := H h7 e7 hT7
      refine vx_aload_n (n := 0) (q := 76) (by decide +kernel) rfl ?_
      refine vx_callV (i := .invokevirtual 101) (how := 3) (cm := 113) (np := 1) (q := 79) (args := [.ref 21]) (rest := []) (by decide +kernel) rfl rfl rfl (vx_w2 (w := 1) (ml := 2) rfl (by decide +kernel)) (vx_rcv (kd := 4) (vx_Tk hT7 (by decide +kernel)) (by decide +kernel)) H (fun h9 hs9 H => ?_)
      have hT9 := vx_Tsh hT7 hs9
      replace H := H hT9
      refine vx_iinc (n := 1) (m := 1) (x := v1) (q := 82) (lv' := [some (.ref 21), some (.int (vx_i (v1 + 1))), some (.int (vx_i (vx_K h (vx_r (vx_r b1 5) 1) (v1 * 5).toNat)))]) (by decide +kernel) rfl rfl ?_
      refine vx_goto (off := (-75)) (q := 85) (t := 7) (by decide +kernel) ?_
      exact H
-- RuleHouse$Engine.runRule(LRuleHouse$Rule;)V
theorem vg_107 {d : Nat} {h : ve_H} {P : ve_H → Prop} {a1 : Nat} (o1 : vx_o 1 625 7 a1) (hT : vx_T 1 625 h) (H : (∃ b1, ve_R h 21 6 = some b1 ∧ vx_o 1 625 5 b1 ∧ (0 ≤ (vx_J h a1 0) ∧ (vx_J h a1 0) < 16) ∧ (((vx_J h (vx_r b1 2) (vx_J h a1 0).toNat) = (vx_J h 21 9) → (∀ h4, h4 = ve_sR h 21 7 (some a1) → vx_T 1 625 h4 → (((vx_J h4 a1 2) ≠ ((-1)) → (∀ h6, h6 = ve_sR h4 21 8 (some 34) → vx_T 1 625 h6 → vx_W (d + 1) 107 58 [some (.ref 21), some (.ref a1), some (.int (vx_i 0)), some (.int (vx_i 0)), none] [] h6 (vx_RV P))) ∧ ((vx_J h4 a1 2) = ((-1)) → (∀ h7, h7 = ve_sR h4 21 8 (some 23) → vx_T 1 625 h7 → vx_W (d + 1) 107 58 [some (.ref 21), some (.ref a1), some (.int (vx_i 0)), some (.int (vx_i 0)), none] [] h7 (vx_RV P)))))) ∧ ((vx_J h (vx_r b1 2) (vx_J h a1 0).toNat) ≠ (vx_J h 21 9) → P h)))) : vx_CV (d + 1) 107 [.ref 21, .ref a1] h P := by
  refine vx_enter (ml := 5) (by decide +kernel) ?_
  show vx_W _ _ 0 [some (.ref 21), some (.ref a1), none, none, none] [] h _
  refine vx_aload_n (n := 0) (q := 1) (by decide +kernel) rfl ?_
  obtain ⟨b1, eb1, ob1, H⟩ := H
  refine vx_getR (b := b1) (idx := 43) (kd := 4) (s := 6) (fin := false) (q := 4) (by decide +kernel) (vx_Tk hT (by decide +kernel)) eb1 ?_
  refine vx_getR (b := vx_r b1 2) (idx := 92) (kd := 5) (s := 2) (fin := true) (q := 7) (by decide +kernel) (vx_Tk hT ob1) (vx_Tr hT (kd := 5) ob1 (by decide +kernel) (vx_f5_2 ob1).1) ?_
  refine vx_aload_n (n := 1) (q := 8) (by decide +kernel) rfl ?_
  refine vx_getI (idx := 104) (kd := 7) (s := 0) (fin := false) (q := 11) (by decide +kernel) (vx_Tk hT o1) ?_
  obtain ⟨k2, H⟩ := H
  refine vx_iaload (z := 16) (q := 12) (by decide +kernel) (vx_Tk hT (vx_f5_2 ob1).2.1) (vx_Tz hT ⟨(vx_f5_2 ob1).2.1.1, (vx_f5_2 ob1).2.2⟩) (vx_ix k2 (by decide)) ?_
  refine vx_aload_n (n := 0) (q := 13) (by decide +kernel) rfl ?_
  refine vx_getI (idx := 57) (kd := 4) (s := 9) (fin := false) (q := 16) (by decide +kernel) (vx_Tk hT (by decide +kernel)) ?_
  refine vx_icmp_eq (off := 4) (q := 19) (t := 20) (by decide +kernel) (vx_rI_J h (vx_r b1 2) (vx_J h a1 0).toNat) (vx_rI_J h 21 9) (fun c3 => ?_) (fun c3 => ?_)
  · replace H := H.1 c3
    refine vx_aload_n (n := 0) (q := 21) (by decide +kernel) rfl ?_
    refine vx_aload_n (n := 1) (q := 22) (by decide +kernel) rfl ?_
    refine vx_putR (idx := 109) (kd := 4) (s := 7) (fin := false) (q := 25) (by decide +kernel) (vx_Tk hT (by decide +kernel)) (fun h4 e4 => ?_)
    have hT4 := vx_TR hT e4 ⟨vx_Tk hT (kd := 4) (by decide +kernel), (by decide +kernel)⟩
    replace H := H h4 e4 hT4
    refine vx_aload_n (n := 0) (q := 26) (by decide +kernel) rfl ?_
    refine vx_aload_n (n := 0) (q := 27) (by decide +kernel) rfl ?_
    refine vx_getR (b := a1) (idx := 109) (kd := 4) (s := 7) (fin := false) (q := 30) (by decide +kernel) (vx_Tk hT4 (by decide +kernel)) (vx_Rsm e4) ?_
    refine vx_getI (idx := 112) (kd := 7) (s := 2) (fin := false) (q := 33) (by decide +kernel) (vx_Tk hT4 o1) ?_
    refine vx_iconst (n := (-1)) (q := 34) (by decide +kernel) ?_
    refine vx_icmp_ne (off := 13) (q := 37) (t := 47) (by decide +kernel) (vx_rI_J h4 a1 2) (by decide) (fun c5 => ?_) (fun c5 => ?_)
    · replace H := H.1 c5
      refine vx_aload_n (n := 0) (q := 48) (by decide +kernel) rfl ?_
      refine vx_getR (b := 34) (idx := 33) (kd := 4) (s := 4) (fin := true) (q := 51) (by decide +kernel) (vx_Tk hT4 (by decide +kernel)) (vx_Tr hT4 (kd := 4) (by decide +kernel) (by decide +kernel) (by decide +kernel)) ?_
      refine vx_putR (idx := 115) (kd := 4) (s := 8) (fin := false) (q := 54) (by decide +kernel) (vx_Tk hT4 (by decide +kernel)) (fun h6 e6 => ?_)
      have hT6 := vx_TR hT4 e6 ⟨vx_Tk hT4 (kd := 4) (by decide +kernel), (by decide +kernel)⟩
      replace H := H h6 e6 hT6
      refine vx_iconst (n := 0) (q := 55) (by decide +kernel) ?_
      refine vx_istore_n (n := 2) (q := 56) (lv' := [some (.ref 21), some (.ref a1), some (.int (vx_i 0)), none, none]) (by decide +kernel) rfl ?_
      refine vx_iconst (n := 0) (q := 57) (by decide +kernel) ?_
      refine vx_istore_n (n := 3) (q := 58) (lv' := [some (.ref 21), some (.ref a1), some (.int (vx_i 0)), some (.int (vx_i 0)), none]) (by decide +kernel) rfl ?_
      exact H
    · replace H := H.2 c5
      refine vx_aload_n (n := 0) (q := 38) (by decide +kernel) rfl ?_
      refine vx_getR (b := 22) (idx := 12) (kd := 4) (s := 0) (fin := true) (q := 41) (by decide +kernel) (vx_Tk hT4 (by decide +kernel)) (vx_Tr hT4 (kd := 4) (by decide +kernel) (by decide +kernel) (by decide +kernel)) ?_
      refine vx_getR (b := 23) (idx := 63) (kd := 8) (s := 0) (fin := true) (q := 44) (by decide +kernel) (vx_Tk hT4 (by decide +kernel)) (vx_Tr hT4 (kd := 8) (by decide +kernel) (by decide +kernel) (by decide +kernel)) ?_
      refine vx_goto (off := 7) (q := 47) (t := 51) (by decide +kernel) ?_
      refine vx_putR (idx := 115) (kd := 4) (s := 8) (fin := false) (q := 54) (by decide +kernel) (vx_Tk hT4 (by decide +kernel)) (fun h7 e7 => ?_)
      have hT7 := vx_TR hT4 e7 ⟨vx_Tk hT4 (kd := 4) (by decide +kernel), (by decide +kernel)⟩
      replace H := H h7 e7 hT7
      refine vx_iconst (n := 0) (q := 55) (by decide +kernel) ?_
      refine vx_istore_n (n := 2) (q := 56) (lv' := [some (.ref 21), some (.ref a1), some (.int (vx_i 0)), none, none]) (by decide +kernel) rfl ?_
      refine vx_iconst (n := 0) (q := 57) (by decide +kernel) ?_
      refine vx_istore_n (n := 3) (q := 58) (lv' := [some (.ref 21), some (.ref a1), some (.int (vx_i 0)), some (.int (vx_i 0)), none]) (by decide +kernel) rfl ?_
      exact H
  · replace H := H.2 c3
    refine vx_retV (q := 20) (by decide +kernel) ?_
    exact H
theorem vg_107_58 {d : Nat} {h : ve_H} {P : ve_H → Prop} {v1 : Nat} (ov1 : vx_o 1 625 7 v1) {v2 : Int} {v3 : Int} {v4 : Option Value} (hT : vx_T 1 625 h) (H : (∃ b1, ve_R h 21 7 = some b1 ∧ vx_o 1 625 7 b1 ∧ (vx_rI v3) ∧ (((vx_J h b1 6) ≤ v3 → (vx_rI v2) ∧ ((v2 ≠ 0 → P h) ∧ (v2 = 0 → (((vx_J h 21 10) = 1 → (∀ h7, h7 = vx_sJ h 21 11 ((-1)) → vx_T 1 625 h7 → vx_CV d 172 [.ref 34] h7 (fun h8 => vx_T 1 625 h8 → vx_CV d 109 [.ref 21, .int (vx_i 0)] h8 (fun h9 => vx_T 1 625 h9 → (∃ b10, ve_R h9 21 7 = some b10 ∧ vx_o 1 625 7 b10 ∧ (((vx_J h9 b10 2) = ((-1)) → P h9) ∧ ((vx_J h9 b10 2) ≠ ((-1)) → vx_CV d 117 [.ref 21] h9 (fun h12 => vx_T 1 625 h12 → P h12)))))))) ∧ ((vx_J h 21 10) ≠ 1 → P h))))) ∧ (v3 < (vx_J h b1 6) → (((vx_J h 21 12) ≠ 0 → (vx_rI v2) ∧ ((v2 ≠ 0 → P h) ∧ (v2 = 0 → (((vx_J h 21 10) = 1 → (∀ h17, h17 = vx_sJ h 21 11 ((-1)) → vx_T 1 625 h17 → vx_CV d 172 [.ref 34] h17 (fun h18 => vx_T 1 625 h18 → vx_CV d 109 [.ref 21, .int (vx_i 0)] h18 (fun h19 => vx_T 1 625 h19 → (∃ b20, ve_R h19 21 7 = some b20 ∧ vx_o 1 625 7 b20 ∧ (((vx_J h19 b20 2) = ((-1)) → P h19) ∧ ((vx_J h19 b20 2) ≠ ((-1)) → vx_CV d 117 [.ref 21] h19 (fun h22 => vx_T 1 625 h22 → P h22)))))))) ∧ ((vx_J h 21 10) ≠ 1 → P h))))) ∧ ((vx_J h 21 12) = 0 → (0 ≤ v3 ∧ v3 < 6) ∧ (0 ≤ (vx_J h (vx_r b1 12) v3.toNat) ∧ (vx_J h (vx_r b1 12) v3.toNat) < 6) ∧ (((vx_J h (vx_r b1 8) (vx_J h (vx_r b1 12) v3.toNat).toNat) ≠ 14 → vx_W (d + 1) 107 58 [some (.ref 21), some (.ref v1), some (.int (vx_i v2)), some (.int (vx_i (v3 + 1))), some (.int (vx_i (vx_J h (vx_r b1 12) v3.toNat)))] [] h (vx_RV P)) ∧ ((vx_J h (vx_r b1 8) (vx_J h (vx_r b1 12) v3.toNat).toNat) = 14 → (∃ b26, ve_R h 21 6 = some b26 ∧ vx_o 1 625 5 b26 ∧ (0 ≤ (vx_J h (vx_r b1 12) v3.toNat) ∧ (vx_J h (vx_r b1 12) v3.toNat) < 6) ∧ (0 ≤ (vx_J h (vx_r b1 9) (vx_J h (vx_r b1 12) v3.toNat).toNat) ∧ (vx_J h (vx_r b1 9) (vx_J h (vx_r b1 12) v3.toNat).toNat) < 16) ∧ (((vx_J h (vx_r b26 2) (vx_J h (vx_r b1 9) (vx_J h (vx_r b1 12) v3.toNat).toNat).toNat) ≠ (vx_J h 21 9) → vx_W (d + 1) 107 58 [some (.ref 21), some (.ref v1), some (.int (vx_i v2)), some (.int (vx_i (v3 + 1))), some (.int (vx_i (vx_J h (vx_r b1 12) v3.toNat)))] [] h (vx_RV P)) ∧ ((vx_J h (vx_r b26 2) (vx_J h (vx_r b1 9) (vx_J h (vx_r b1 12) v3.toNat).toNat).toNat) = (vx_J h 21 9) → (∀ h30, h30 = vx_sJ h 21 11 v3 → vx_T 1 625 h30 → vx_CV d 109 [.ref 21, .int (vx_i 0)] h30 (fun h31 => vx_T 1 625 h31 → vx_W (d + 1) 107 58 [some (.ref 21), some (.ref v1), some (.int (vx_i 1)), some (.int (vx_i (v3 + 1))), some (.int (vx_i (vx_J h (vx_r b1 12) v3.toNat)))] [] h31 (vx_RV P)))))))))))))) : vx_W (d + 1) 107 58 [some (.ref 21), some (.ref v1), some (.int (vx_i v2)), some (.int (vx_i v3)), v4] [] h (vx_RV P) := by
  refine vx_iload_n (n := 3) (q := 59) (by decide +kernel) rfl ?_
  refine vx_aload_n (n := 0) (q := 60) (by decide +kernel) rfl ?_
  obtain ⟨b1, eb1, ob1, H⟩ := H
  refine vx_getR (b := b1) (idx := 109) (kd := 4) (s := 7) (fin := false) (q := 63) (by decide +kernel) (vx_Tk hT (by decide +kernel)) eb1 ?_
  refine vx_getI (idx := 118) (kd := 7) (s := 6) (fin := false) (q := 66) (by decide +kernel) (vx_Tk hT ob1) ?_
  obtain ⟨k2, H⟩ := H
  refine vx_icmp_ge (off := 79) (q := 69) (t := 145) (by decide +kernel) k2 (vx_rI_J h b1 6) (fun c3 => ?_) (fun c3 => ?_)
  · replace H := H.1 c3
    refine vx_iload_n (n := 2) (q := 146) (by decide +kernel) rfl ?_
    obtain ⟨k4, H⟩ := H
    refine vx_if0_ne (off := 11) (q := 149) (t := 157) (by decide +kernel) k4 (fun c5 => ?_) (fun c5 => ?_)
    · replace H := H.1 c5
      refine vx_retV (q := 158) (by decide +kernel) ?_
      exact H
    · replace H := H.2 c5
      refine vx_aload_n (n := 0) (q := 150) (by decide +kernel) rfl ?_
      refine vx_getI (idx := 69) (kd := 4) (s := 10) (fin := false) (q := 153) (by decide +kernel) (vx_Tk hT (by decide +kernel)) ?_
      refine vx_iconst (n := 1) (q := 154) (by decide +kernel) ?_
      refine vx_icmp_eq (off := 4) (q := 157) (t := 158) (by decide +kernel) (vx_rI_J h 21 10) (by decide) (fun c6 => ?_) (fun c6 => ?_)
      · replace H := H.1 c6
        refine vx_aload_n (n := 0) (q := 159) (by decide +kernel) rfl ?_
        refine vx_iconst (n := (-1)) (q := 160) (by decide +kernel) ?_
        refine vx_putI (idx := 130) (kd := 4) (s := 11) (fin := false) (q := 163) (by decide +kernel) (vx_Tk hT (by decide +kernel)) (fun h7 e7 => ?_)
        have hT7 := vx_TJ hT e7
        replace H := H h7 e7 hT7
        refine vx_aload_n (n := 0) (q := 164) (by decide +kernel) rfl ?_
        refine vx_getR (b := 34) (idx := 33) (kd := 4) (s := 4) (fin := true) (q := 167) (by decide +kernel) (vx_Tk hT7 (by decide +kernel)) (vx_Tr hT7 (kd := 4) (by decide +kernel) (by decide +kernel) (by decide +kernel)) ?_
        refine vx_callV (i := .invokevirtual 136) (how := 3) (cm := 172) (np := 1) (q := 170) (args := [.ref 34]) (rest := []) (by decide +kernel) rfl rfl rfl (vx_w2 (w := 1) (ml := 1) rfl (by decide +kernel)) (vx_rcv (kd := 6) (vx_Tk hT7 (by decide +kernel)) (by decide +kernel)) H (fun h8 hs8 H => ?_)
        have hT8 := vx_Tsh hT7 hs8
        replace H := H hT8
        refine vx_aload_n (n := 0) (q := 171) (by decide +kernel) rfl ?_
        refine vx_iconst (n := 0) (q := 172) (by decide +kernel) ?_
        refine vx_callV (i := .invokevirtual 133) (how := 3) (cm := 109) (np := 2) (q := 175) (args := [.ref 21, .int (vx_i 0)]) (rest := []) (by decide +kernel) rfl rfl rfl (vx_w2 (w := 2) (ml := 7) rfl (by decide +kernel)) (vx_rcv (kd := 4) (vx_Tk hT8 (by decide +kernel)) (by decide +kernel)) H (fun h9 hs9 H => ?_)
        have hT9 := vx_Tsh hT8 hs9
        replace H := H hT9
        refine vx_aload_n (n := 0) (q := 176) (by decide +kernel) rfl ?_
        obtain ⟨b10, eb10, ob10, H⟩ := H
        refine vx_getR (b := b10) (idx := 109) (kd := 4) (s := 7) (fin := false) (q := 179) (by decide +kernel) (vx_Tk hT9 (by decide +kernel)) eb10 ?_
        refine vx_getI (idx := 112) (kd := 7) (s := 2) (fin := false) (q := 182) (by decide +kernel) (vx_Tk hT9 ob10) ?_
        refine vx_iconst (n := (-1)) (q := 183) (by decide +kernel) ?_
        refine vx_icmp_eq (off := 7) (q := 186) (t := 190) (by decide +kernel) (vx_rI_J h9 b10 2) (by decide) (fun c11 => ?_) (fun c11 => ?_)
        · replace H := H.1 c11
          refine vx_retV (q := 191) (by decide +kernel) ?_
          exact H
        · replace H := H.2 c11
          refine vx_aload_n (n := 0) (q := 187) (by decide +kernel) rfl ?_
          refine vx_callV (i := .invokevirtual 137) (how := 3) (cm := 117) (np := 1) (q := 190) (args := [.ref 21]) (rest := []) (by decide +kernel) rfl rfl rfl (vx_w2 (w := 1) (ml := 2) rfl (by decide +kernel)) (vx_rcv (kd := 4) (vx_Tk hT9 (by decide +kernel)) (by decide +kernel)) H (fun h12 hs12 H => ?_)
          have hT12 := vx_Tsh hT9 hs12
          replace H := H hT12
          refine vx_retV (q := 191) (by decide +kernel) ?_
          exact H
      · replace H := H.2 c6
        refine vx_retV (q := 158) (by decide +kernel) ?_
        exact H
  · replace H := H.2 c3
    refine vx_aload_n (n := 0) (q := 70) (by decide +kernel) rfl ?_
    refine vx_getZ (idx := 47) (kd := 4) (s := 12) (fin := false) (q := 73) (by decide +kernel) (vx_Tk hT (by decide +kernel)) ?_
    refine vx_if0_ne (off := 72) (q := 76) (t := 145) (by decide +kernel) (vx_rI_J h 21 12) (fun c13 => ?_) (fun c13 => ?_)
    · replace H := H.1 c13
      refine vx_iload_n (n := 2) (q := 146) (by decide +kernel) rfl ?_
      obtain ⟨k14, H⟩ := H
      refine vx_if0_ne (off := 11) (q := 149) (t := 157) (by decide +kernel) k14 (fun c15 => ?_) (fun c15 => ?_)
      · replace H := H.1 c15
        refine vx_retV (q := 158) (by decide +kernel) ?_
        exact H
      · replace H := H.2 c15
        refine vx_aload_n (n := 0) (q := 150) (by decide +kernel) rfl ?_
        refine vx_getI (idx := 69) (kd := 4) (s := 10) (fin := false) (q := 153) (by decide +kernel) (vx_Tk hT (by decide +kernel)) ?_
        refine vx_iconst (n := 1) (q := 154) (by decide +kernel) ?_
        refine vx_icmp_eq (off := 4) (q := 157) (t := 158) (by decide +kernel) (vx_rI_J h 21 10) (by decide) (fun c16 => ?_) (fun c16 => ?_)
        · replace H := H.1 c16
          refine vx_aload_n (n := 0) (q := 159) (by decide +kernel) rfl ?_
          refine vx_iconst (n := (-1)) (q := 160) (by decide +kernel) ?_
          refine vx_putI (idx := 130) (kd := 4) (s := 11) (fin := false) (q := 163) (by decide +kernel) (vx_Tk hT (by decide +kernel)) (fun h17 e17 => ?_)
          have hT17 := vx_TJ hT e17
          replace H := H h17 e17 hT17
          refine vx_aload_n (n := 0) (q := 164) (by decide +kernel) rfl ?_
          refine vx_getR (b := 34) (idx := 33) (kd := 4) (s := 4) (fin := true) (q := 167) (by decide +kernel) (vx_Tk hT17 (by decide +kernel)) (vx_Tr hT17 (kd := 4) (by decide +kernel) (by decide +kernel) (by decide +kernel)) ?_
          refine vx_callV (i := .invokevirtual 136) (how := 3) (cm := 172) (np := 1) (q := 170) (args := [.ref 34]) (rest := []) (by decide +kernel) rfl rfl rfl (vx_w2 (w := 1) (ml := 1) rfl (by decide +kernel)) (vx_rcv (kd := 6) (vx_Tk hT17 (by decide +kernel)) (by decide +kernel)) H (fun h18 hs18 H => ?_)
          have hT18 := vx_Tsh hT17 hs18
          replace H := H hT18
          refine vx_aload_n (n := 0) (q := 171) (by decide +kernel) rfl ?_
          refine vx_iconst (n := 0) (q := 172) (by decide +kernel) ?_
          refine vx_callV (i := .invokevirtual 133) (how := 3) (cm := 109) (np := 2) (q := 175) (args := [.ref 21, .int (vx_i 0)]) (rest := []) (by decide +kernel) rfl rfl rfl (vx_w2 (w := 2) (ml := 7) rfl (by decide +kernel)) (vx_rcv (kd := 4) (vx_Tk hT18 (by decide +kernel)) (by decide +kernel)) H (fun h19 hs19 H => ?_)
          have hT19 := vx_Tsh hT18 hs19
          replace H := H hT19
          refine vx_aload_n (n := 0) (q := 176) (by decide +kernel) rfl ?_
          obtain ⟨b20, eb20, ob20, H⟩ := H
          refine vx_getR (b := b20) (idx := 109) (kd := 4) (s := 7) (fin := false) (q := 179) (by decide +kernel) (vx_Tk hT19 (by decide +kernel)) eb20 ?_
          refine vx_getI (idx := 112) (kd := 7) (s := 2) (fin := false) (q := 182) (by decide +kernel) (vx_Tk hT19 ob20) ?_
          refine vx_iconst (n := (-1)) (q := 183) (by decide +kernel) ?_
          refine vx_icmp_eq (off := 7) (q := 186) (t := 190) (by decide +kernel) (vx_rI_J h19 b20 2) (by decide) (fun c21 => ?_) (fun c21 => ?_)
          · replace H := H.1 c21
            refine vx_retV (q := 191) (by decide +kernel) ?_
            exact H
          · replace H := H.2 c21
            refine vx_aload_n (n := 0) (q := 187) (by decide +kernel) rfl ?_
            refine vx_callV (i := .invokevirtual 137) (how := 3) (cm := 117) (np := 1) (q := 190) (args := [.ref 21]) (rest := []) (by decide +kernel) rfl rfl rfl (vx_w2 (w := 1) (ml := 2) rfl (by decide +kernel)) (vx_rcv (kd := 4) (vx_Tk hT19 (by decide +kernel)) (by decide +kernel)) H (fun h22 hs22 H => ?_)
            have hT22 := vx_Tsh hT19 hs22
            replace H := H hT22
            refine vx_retV (q := 191) (by decide +kernel) ?_
            exact H
        · replace H := H.2 c16
          refine vx_retV (q := 158) (by decide +kernel) ?_
          exact H
    · replace H := H.2 c13
      refine vx_aload_n (n := 0) (q := 77) (by decide +kernel) rfl ?_
      refine vx_getR (b := b1) (idx := 109) (kd := 4) (s := 7) (fin := false) (q := 80) (by decide +kernel) (vx_Tk hT (by decide +kernel)) eb1 ?_
      refine vx_getR (b := vx_r b1 12) (idx := 121) (kd := 7) (s := 12) (fin := true) (q := 83) (by decide +kernel) (vx_Tk hT ob1) (vx_Tr hT (kd := 7) ob1 (by decide +kernel) (vx_f7_12 ob1).1) ?_
      refine vx_iload_n (n := 3) (q := 84) (by decide +kernel) rfl ?_
      obtain ⟨k23, H⟩ := H
      refine vx_iaload (z := 6) (q := 85) (by decide +kernel) (vx_Tk hT (vx_f7_12 ob1).2.1) (vx_Tz hT ⟨(vx_f7_12 ob1).2.1.1, (vx_f7_12 ob1).2.2⟩) (vx_ix k23 (by decide)) ?_
      refine vx_istore (n := 4) (q := 87) (lv' := [some (.ref 21), some (.ref v1), some (.int (vx_i v2)), some (.int (vx_i v3)), some (.int (vx_i (vx_J h (vx_r b1 12) v3.toNat)))]) (by decide +kernel) rfl ?_
      refine vx_aload_n (n := 0) (q := 88) (by decide +kernel) rfl ?_
      refine vx_getR (b := b1) (idx := 109) (kd := 4) (s := 7) (fin := false) (q := 91) (by decide +kernel) (vx_Tk hT (by decide +kernel)) eb1 ?_
      refine vx_getR (b := vx_r b1 8) (idx := 124) (kd := 7) (s := 8) (fin := true) (q := 94) (by decide +kernel) (vx_Tk hT ob1) (vx_Tr hT (kd := 7) ob1 (by decide +kernel) (vx_f7_8 ob1).1) ?_
      refine vx_iload (n := 4) (q := 96) (by decide +kernel) rfl ?_
      obtain ⟨k24, H⟩ := H
      refine vx_iaload (z := 6) (q := 97) (by decide +kernel) (vx_Tk hT (vx_f7_8 ob1).2.1) (vx_Tz hT ⟨(vx_f7_8 ob1).2.1.1, (vx_f7_8 ob1).2.2⟩) (vx_ix k24 (by decide)) ?_
      refine vx_bipush (n := 14) (q := 99) (by decide +kernel) ?_
      refine vx_icmp_ne (off := 40) (q := 102) (t := 139) (by decide +kernel) (vx_rI_J h (vx_r b1 8) (vx_J h (vx_r b1 12) v3.toNat).toNat) (by decide) (fun c25 => ?_) (fun c25 => ?_)
      · replace H := H.1 c25
        refine vx_iinc (n := 3) (m := 1) (x := v3) (q := 142) (lv' := [some (.ref 21), some (.ref v1), some (.int (vx_i v2)), some (.int (vx_i (v3 + 1))), some (.int (vx_i (vx_J h (vx_r b1 12) v3.toNat)))]) (by decide +kernel) rfl rfl ?_
        refine vx_goto (off := (-84)) (q := 145) (t := 58) (by decide +kernel) ?_
        exact H
      · replace H := H.2 c25
        refine vx_aload_n (n := 0) (q := 103) (by decide +kernel) rfl ?_
        obtain ⟨b26, eb26, ob26, H⟩ := H
        refine vx_getR (b := b26) (idx := 43) (kd := 4) (s := 6) (fin := false) (q := 106) (by decide +kernel) (vx_Tk hT (by decide +kernel)) eb26 ?_
        refine vx_getR (b := vx_r b26 2) (idx := 92) (kd := 5) (s := 2) (fin := true) (q := 109) (by decide +kernel) (vx_Tk hT ob26) (vx_Tr hT (kd := 5) ob26 (by decide +kernel) (vx_f5_2 ob26).1) ?_
        refine vx_aload_n (n := 0) (q := 110) (by decide +kernel) rfl ?_
        refine vx_getR (b := b1) (idx := 109) (kd := 4) (s := 7) (fin := false) (q := 113) (by decide +kernel) (vx_Tk hT (by decide +kernel)) eb1 ?_
        refine vx_getR (b := vx_r b1 9) (idx := 127) (kd := 7) (s := 9) (fin := true) (q := 116) (by decide +kernel) (vx_Tk hT ob1) (vx_Tr hT (kd := 7) ob1 (by decide +kernel) (vx_f7_9 ob1).1) ?_
        refine vx_iload (n := 4) (q := 118) (by decide +kernel) rfl ?_
        obtain ⟨k27, H⟩ := H
        refine vx_iaload (z := 6) (q := 119) (by decide +kernel) (vx_Tk hT (vx_f7_9 ob1).2.1) (vx_Tz hT ⟨(vx_f7_9 ob1).2.1.1, (vx_f7_9 ob1).2.2⟩) (vx_ix k27 (by decide)) ?_
        obtain ⟨k28, H⟩ := H
        refine vx_iaload (z := 16) (q := 120) (by decide +kernel) (vx_Tk hT (vx_f5_2 ob26).2.1) (vx_Tz hT ⟨(vx_f5_2 ob26).2.1.1, (vx_f5_2 ob26).2.2⟩) (vx_ix k28 (by decide)) ?_
        refine vx_aload_n (n := 0) (q := 121) (by decide +kernel) rfl ?_
        refine vx_getI (idx := 57) (kd := 4) (s := 9) (fin := false) (q := 124) (by decide +kernel) (vx_Tk hT (by decide +kernel)) ?_
        refine vx_icmp_ne (off := 15) (q := 127) (t := 139) (by decide +kernel) (vx_rI_J h (vx_r b26 2) (vx_J h (vx_r b1 9) (vx_J h (vx_r b1 12) v3.toNat).toNat).toNat) (vx_rI_J h 21 9) (fun c29 => ?_) (fun c29 => ?_)
        · replace H := H.1 c29
          refine vx_iinc (n := 3) (m := 1) (x := v3) (q := 142) (lv' := [some (.ref 21), some (.ref v1), some (.int (vx_i v2)), some (.int (vx_i (v3 + 1))), some (.int (vx_i (vx_J h (vx_r b1 12) v3.toNat)))]) (by decide +kernel) rfl rfl ?_
          refine vx_goto (off := (-84)) (q := 145) (t := 58) (by decide +kernel) ?_
          exact H
        · replace H := H.2 c29
          refine vx_iconst (n := 1) (q := 128) (by decide +kernel) ?_
          refine vx_istore_n (n := 2) (q := 129) (lv' := [some (.ref 21), some (.ref v1), some (.int (vx_i 1)), some (.int (vx_i v3)), some (.int (vx_i (vx_J h (vx_r b1 12) v3.toNat)))]) (by decide +kernel) rfl ?_
          refine vx_aload_n (n := 0) (q := 130) (by decide +kernel) rfl ?_
          refine vx_iload_n (n := 3) (q := 131) (by decide +kernel) rfl ?_
          refine vx_putI (idx := 130) (kd := 4) (s := 11) (fin := false) (q := 134) (by decide +kernel) (vx_Tk hT (by decide +kernel)) (fun h30 e30 => ?_)
          have hT30 := vx_TJ hT e30
          replace H := H h30 e30 hT30
          refine vx_aload_n (n := 0) (q := 135) (by decide +kernel) rfl ?_
          refine vx_iconst (n := 0) (q := 136) (by decide +kernel) ?_
          refine vx_callV (i := .invokevirtual 133) (how := 3) (cm := 109) (np := 2) (q := 139) (args := [.ref 21, .int (vx_i 0)]) (rest := []) (by decide +kernel) rfl rfl rfl (vx_w2 (w := 2) (ml := 7) rfl (by decide +kernel)) (vx_rcv (kd := 4) (vx_Tk hT30 (by decide +kernel)) (by decide +kernel)) H (fun h31 hs31 H => ?_)
          have hT31 := vx_Tsh hT30 hs31
          replace H := H hT31
          refine vx_iinc (n := 3) (m := 1) (x := v3) (q := 142) (lv' := [some (.ref 21), some (.ref v1), some (.int (vx_i 1)), some (.int (vx_i (v3 + 1))), some (.int (vx_i (vx_J h (vx_r b1 12) v3.toNat)))]) (by decide +kernel) rfl rfl ?_
          refine vx_goto (off := (-84)) (q := 145) (t := 58) (by decide +kernel) ?_
          exact H
-- RuleHouse$Engine.collect(LRuleHouse$Program;LRuleHouse$Rule;LRuleHouse$Rows;)Z
theorem vg_108 {d : Nat} {h : ve_H} {P : Int → ve_H → Prop} {a1 : Nat} (o1 : vx_o 1 625 5 a1) {a2 : Nat} (o2 : vx_o 1 625 7 a2) {a3 : Nat} (o3 : vx_o 1 625 6 a3) (hT : vx_T 1 625 h) (H : (∀ h1, h1 = ve_sR h 21 6 (some a1) → vx_T 1 625 h1 → (∀ h2, h2 = ve_sR h1 21 7 (some a2) → vx_T 1 625 h2 → (∀ h3, h3 = ve_sR h2 21 8 (some a3) → vx_T 1 625 h3 → (∀ h4, h4 = vx_sJ h3 21 9 ((-1)) → vx_T 1 625 h4 → (∀ h5, h5 = vx_sJ h4 21 11 ((-1)) → vx_T 1 625 h5 → (∀ h6, h6 = vx_sJ h5 21 12 0 → vx_T 1 625 h6 → vx_CV d 172 [.ref a3] h6 (fun h7 => vx_T 1 625 h7 → vx_CV d 109 [.ref 21, .int (vx_i 0)] h7 (fun h8 => vx_T 1 625 h8 → vx_CV d 178 [.ref a3] h8 (fun h9 => vx_T 1 625 h9 → (((vx_J h9 21 12) ≠ 0 → P 0 h9) ∧ ((vx_J h9 21 12) = 0 → P 1 h9)))))))))))) : vx_CI (d + 1) 108 [.ref 21, .ref a1, .ref a2, .ref a3] h P := by
  refine vx_enter (ml := 4) (by decide +kernel) ?_
  show vx_W _ _ 0 [some (.ref 21), some (.ref a1), some (.ref a2), some (.ref a3)] [] h _
  refine vx_aload_n (n := 0) (q := 1) (by decide +kernel) rfl ?_
  refine vx_aload_n (n := 1) (q := 2) (by decide +kernel) rfl ?_
  refine vx_putR (idx := 43) (kd := 4) (s := 6) (fin := false) (q := 5) (by decide +kernel) (vx_Tk hT (by decide +kernel)) (fun h1 e1 => ?_)
  have hT1 := vx_TR hT e1 ⟨vx_Tk hT (kd := 4) (by decide +kernel), (by decide +kernel)⟩
  replace H := H h1 e1 hT1
  refine vx_aload_n (n := 0) (q := 6) (by decide +kernel) rfl ?_
  refine vx_aload_n (n := 2) (q := 7) (by decide +kernel) rfl ?_
  refine vx_putR (idx := 109) (kd := 4) (s := 7) (fin := false) (q := 10) (by decide +kernel) (vx_Tk hT1 (by decide +kernel)) (fun h2 e2 => ?_)
  have hT2 := vx_TR hT1 e2 ⟨vx_Tk hT1 (kd := 4) (by decide +kernel), (by decide +kernel)⟩
  replace H := H h2 e2 hT2
  refine vx_aload_n (n := 0) (q := 11) (by decide +kernel) rfl ?_
  refine vx_aload_n (n := 3) (q := 12) (by decide +kernel) rfl ?_
  refine vx_putR (idx := 115) (kd := 4) (s := 8) (fin := false) (q := 15) (by decide +kernel) (vx_Tk hT2 (by decide +kernel)) (fun h3 e3 => ?_)
  have hT3 := vx_TR hT2 e3 ⟨vx_Tk hT2 (kd := 4) (by decide +kernel), (by decide +kernel)⟩
  replace H := H h3 e3 hT3
  refine vx_aload_n (n := 0) (q := 16) (by decide +kernel) rfl ?_
  refine vx_iconst (n := (-1)) (q := 17) (by decide +kernel) ?_
  refine vx_putI (idx := 57) (kd := 4) (s := 9) (fin := false) (q := 20) (by decide +kernel) (vx_Tk hT3 (by decide +kernel)) (fun h4 e4 => ?_)
  have hT4 := vx_TJ hT3 e4
  replace H := H h4 e4 hT4
  refine vx_aload_n (n := 0) (q := 21) (by decide +kernel) rfl ?_
  refine vx_iconst (n := (-1)) (q := 22) (by decide +kernel) ?_
  refine vx_putI (idx := 130) (kd := 4) (s := 11) (fin := false) (q := 25) (by decide +kernel) (vx_Tk hT4 (by decide +kernel)) (fun h5 e5 => ?_)
  have hT5 := vx_TJ hT4 e5
  replace H := H h5 e5 hT5
  refine vx_aload_n (n := 0) (q := 26) (by decide +kernel) rfl ?_
  refine vx_iconst (n := 0) (q := 27) (by decide +kernel) ?_
  refine vx_putZ (idx := 47) (kd := 4) (s := 12) (fin := false) (q := 30) (by decide +kernel) (vx_Tk hT5 (by decide +kernel)) (Or.inl rfl) (fun h6 e6 => ?_)
  have hT6 := vx_TJ hT5 e6
  replace H := H h6 e6 hT6
  refine vx_aload_n (n := 3) (q := 31) (by decide +kernel) rfl ?_
  refine vx_callV (i := .invokevirtual 136) (how := 3) (cm := 172) (np := 1) (q := 34) (args := [.ref a3]) (rest := []) (by decide +kernel) rfl rfl rfl (vx_w2 (w := 1) (ml := 1) rfl (by decide +kernel)) (vx_rcv (kd := 6) (vx_Tk hT6 o3) (by decide +kernel)) H (fun h7 hs7 H => ?_)
  have hT7 := vx_Tsh hT6 hs7
  replace H := H hT7
  refine vx_aload_n (n := 0) (q := 35) (by decide +kernel) rfl ?_
  refine vx_iconst (n := 0) (q := 36) (by decide +kernel) ?_
  refine vx_callV (i := .invokevirtual 133) (how := 3) (cm := 109) (np := 2) (q := 39) (args := [.ref 21, .int (vx_i 0)]) (rest := []) (by decide +kernel) rfl rfl rfl (vx_w2 (w := 2) (ml := 7) rfl (by decide +kernel)) (vx_rcv (kd := 4) (vx_Tk hT7 (by decide +kernel)) (by decide +kernel)) H (fun h8 hs8 H => ?_)
  have hT8 := vx_Tsh hT7 hs8
  replace H := H hT8
  refine vx_aload_n (n := 3) (q := 40) (by decide +kernel) rfl ?_
  refine vx_callV (i := .invokevirtual 83) (how := 3) (cm := 178) (np := 1) (q := 43) (args := [.ref a3]) (rest := []) (by decide +kernel) rfl rfl rfl (vx_w2 (w := 1) (ml := 4) rfl (by decide +kernel)) (vx_rcv (kd := 6) (vx_Tk hT8 o3) (by decide +kernel)) H (fun h9 hs9 H => ?_)
  have hT9 := vx_Tsh hT8 hs9
  replace H := H hT9
  refine vx_aload_n (n := 0) (q := 44) (by decide +kernel) rfl ?_
  refine vx_getZ (idx := 47) (kd := 4) (s := 12) (fin := false) (q := 47) (by decide +kernel) (vx_Tk hT9 (by decide +kernel)) ?_
  refine vx_if0_ne (off := 7) (q := 50) (t := 54) (by decide +kernel) (vx_rI_J h9 21 12) (fun c10 => ?_) (fun c10 => ?_)
  · replace H := H.1 c10
    refine vx_iconst (n := 0) (q := 55) (by decide +kernel) ?_
    refine vx_retZ (q := 56) (by decide +kernel) (Or.inl rfl) ?_
    exact H
  · replace H := H.2 c10
    refine vx_iconst (n := 1) (q := 51) (by decide +kernel) ?_
    refine vx_goto (off := 4) (q := 54) (t := 55) (by decide +kernel) ?_
    refine vx_retZ (q := 56) (by decide +kernel) (Or.inr rfl) ?_
    exact H
-- RuleHouse$Engine.walk(I)V
theorem vg_109 {d : Nat} {h : ve_H} {P : ve_H → Prop} {x1 : Int} (hT : vx_T 1 625 h) (H : (((vx_J h 21 12) ≠ 0 → P h) ∧ ((vx_J h 21 12) = 0 → (∃ b2, ve_R h 21 7 = some b2 ∧ vx_o 1 625 7 b2 ∧ (vx_rI x1) ∧ (((vx_J h b2 6) < x1 → P h) ∧ (x1 ≤ (vx_J h b2 6) → ((x1 < (vx_J h b2 15) → vx_W (d + 1) 109 37 [some (.ref 21), some (.int (vx_i x1)), none, none, none, none, none] [] h (vx_RV P)) ∧ ((vx_J h b2 15) ≤ x1 → vx_CI d 110 [.ref 21] h (fun r6 h6 => vx_T 1 625 h6 → ((r6 = 0 → vx_W (d + 1) 109 37 [some (.ref 21), some (.int (vx_i x1)), none, none, none, none, none] [] h6 (vx_RV P)) ∧ (r6 ≠ 0 → P h6))))))))))) : vx_CV (d + 1) 109 [.ref 21, .int (vx_i x1)] h P := by
  refine vx_enter (ml := 7) (by decide +kernel) ?_
  show vx_W _ _ 0 [some (.ref 21), some (.int (vx_i x1)), none, none, none, none, none] [] h _
  refine vx_aload_n (n := 0) (q := 1) (by decide +kernel) rfl ?_
  refine vx_getZ (idx := 47) (kd := 4) (s := 12) (fin := false) (q := 4) (by decide +kernel) (vx_Tk hT (by decide +kernel)) ?_
  refine vx_if0_ne (off := 32) (q := 7) (t := 36) (by decide +kernel) (vx_rI_J h 21 12) (fun c1 => ?_) (fun c1 => ?_)
  · replace H := H.1 c1
    refine vx_retV (q := 37) (by decide +kernel) ?_
    exact H
  · replace H := H.2 c1
    refine vx_iload_n (n := 1) (q := 8) (by decide +kernel) rfl ?_
    refine vx_aload_n (n := 0) (q := 9) (by decide +kernel) rfl ?_
    obtain ⟨b2, eb2, ob2, H⟩ := H
    refine vx_getR (b := b2) (idx := 109) (kd := 4) (s := 7) (fin := false) (q := 12) (by decide +kernel) (vx_Tk hT (by decide +kernel)) eb2 ?_
    refine vx_getI (idx := 118) (kd := 7) (s := 6) (fin := false) (q := 15) (by decide +kernel) (vx_Tk hT ob2) ?_
    obtain ⟨k3, H⟩ := H
    refine vx_icmp_gt (off := 21) (q := 18) (t := 36) (by decide +kernel) k3 (vx_rI_J h b2 6) (fun c4 => ?_) (fun c4 => ?_)
    · replace H := H.1 c4
      refine vx_retV (q := 37) (by decide +kernel) ?_
      exact H
    · replace H := H.2 c4
      refine vx_iload_n (n := 1) (q := 19) (by decide +kernel) rfl ?_
      refine vx_aload_n (n := 0) (q := 20) (by decide +kernel) rfl ?_
      refine vx_getR (b := b2) (idx := 109) (kd := 4) (s := 7) (fin := false) (q := 23) (by decide +kernel) (vx_Tk hT (by decide +kernel)) eb2 ?_
      refine vx_getI (idx := 140) (kd := 7) (s := 15) (fin := false) (q := 26) (by decide +kernel) (vx_Tk hT ob2) ?_
      refine vx_icmp_lt (off := 11) (q := 29) (t := 37) (by decide +kernel) k3 (vx_rI_J h b2 15) (fun c5 => ?_) (fun c5 => ?_)
      · replace H := H.1 c5
        exact H
      · replace H := H.2 c5
        refine vx_aload_n (n := 0) (q := 30) (by decide +kernel) rfl ?_
        refine vx_callI (i := .invokevirtual 143) (how := 3) (cm := 110) (np := 1) (q := 33) (args := [.ref 21]) (rest := []) (by decide +kernel) rfl rfl rfl (vx_w2 (w := 1) (ml := 1) rfl (by decide +kernel)) (vx_rcv (kd := 4) (vx_Tk hT (by decide +kernel)) (by decide +kernel)) H (fun r6 h6 hr6 hs6 H => ?_)
        have hT6 := vx_Tsh hT hs6
        replace H := H hT6
        refine vx_if0_eq (off := 4) (q := 36) (t := 37) (by decide +kernel) hr6 (fun c7 => ?_) (fun c7 => ?_)
        · replace H := H.1 c7
          exact H
        · replace H := H.2 c7
          refine vx_retV (q := 37) (by decide +kernel) ?_
          exact H
theorem vg_109_37 {d : Nat} {h : ve_H} {P : ve_H → Prop} {v1 : Int} (hT : vx_T 1 625 h) (H : (∃ b1, ve_R h 21 7 = some b1 ∧ vx_o 1 625 7 b1 ∧ (vx_rI v1) ∧ ((v1 ≠ (vx_J h b1 6) → (0 ≤ v1 ∧ v1 < 6) ∧ (0 ≤ v1 ∧ v1 < 6) ∧ (0 ≤ (vx_J h (vx_r b1 12) v1.toNat) ∧ (vx_J h (vx_r b1 12) v1.toNat) < 6) ∧ (((vx_J h (vx_r b1 8) (vx_J h (vx_r b1 12) v1.toNat).toNat) = 14 → (0 ≤ v1 ∧ v1 < 6) ∧ (((vx_J h (vx_r b1 14) v1.toNat) = 0 → (0 ≤ (vx_J h (vx_r b1 12) v1.toNat) ∧ (vx_J h (vx_r b1 12) v1.toNat) < 6) ∧ (0 ≤ (vx_J h (vx_r b1 9) (vx_J h (vx_r b1 12) v1.toNat).toNat) ∧ (vx_J h (vx_r b1 9) (vx_J h (vx_r b1 12) v1.toNat).toNat) < 16) ∧ (0 ≤ (vx_J h (vx_r b1 9) (vx_J h (vx_r b1 12) v1.toNat).toNat) ∧ (vx_J h (vx_r b1 9) (vx_J h (vx_r b1 12) v1.toNat).toNat) < 16) ∧ vx_W (d + 1) 109 220 [some (.ref 21), some (.int (vx_i v1)), some (.int (vx_i (vx_J h (vx_r b1 12) v1.toNat))), some (.int (vx_i (vx_J h (vx_r b1 13) v1.toNat))), some (.int (vx_i (vx_J h (vx_r b1 9) (vx_J h (vx_r b1 12) v1.toNat).toNat))), some (.int (vx_i (vx_J h 29 (vx_J h (vx_r b1 9) (vx_J h (vx_r b1 12) v1.toNat).toNat).toNat))), some (.int (vx_i (vx_J h 30 (vx_J h (vx_r b1 9) (vx_J h (vx_r b1 12) v1.toNat).toNat).toNat)))] [] h (vx_RV P)) ∧ ((vx_J h (vx_r b1 14) v1.toNat) ≠ 0 → vx_CI d 122 [.ref 21, .int (vx_i (vx_J h (vx_r b1 12) v1.toNat))] h (fun r13 h13 => vx_T 1 625 h13 → ((r13 = ((-1)) → P h13) ∧ (r13 ≠ ((-1)) → vx_CI d 118 [.ref 21, .int (vx_i r13), .int (vx_i v1)] h13 (fun r15 h15 => vx_T 1 625 h15 → ((r15 = 0 → P h15) ∧ (r15 ≠ 0 → vx_CV d 109 [.ref 21, .int (vx_i (v1 + 1))] h15 (fun h17 => vx_T 1 625 h17 → P h17)))))))))) ∧ ((vx_J h (vx_r b1 8) (vx_J h (vx_r b1 12) v1.toNat).toNat) ≠ 14 → (0 ≤ (vx_J h (vx_r b1 12) v1.toNat) ∧ (vx_J h (vx_r b1 12) v1.toNat) < 6) ∧ (((vx_J h (vx_r b1 8) (vx_J h (vx_r b1 12) v1.toNat).toNat) ≠ 15 → vx_CI d 120 [.ref 21, .int (vx_i (vx_J h (vx_r b1 12) v1.toNat)), .int (vx_i (vx_J h (vx_r b1 13) v1.toNat))] h (fun r20 h20 => vx_T 1 625 h20 → ((r20 = 0 → P h20) ∧ (r20 ≠ 0 → vx_CV d 109 [.ref 21, .int (vx_i (v1 + 1))] h20 (fun h22 => vx_T 1 625 h22 → P h22))))) ∧ ((vx_J h (vx_r b1 8) (vx_J h (vx_r b1 12) v1.toNat).toNat) = 15 → vx_CI d 121 [.ref 21, .int (vx_i (vx_J h (vx_r b1 12) v1.toNat)), .int (vx_i v1)] h (fun r23 h23 => vx_T 1 625 h23 → ((r23 ≠ 0 → P h23) ∧ (r23 = 0 → vx_CV d 109 [.ref 21, .int (vx_i (v1 + 1))] h23 (fun h25 => vx_T 1 625 h25 → P h25))))))))) ∧ (v1 = (vx_J h b1 6) → vx_CV d 112 [.ref 21] h (fun h26 => vx_T 1 625 h26 → P h26))))) : vx_W (d + 1) 109 37 [some (.ref 21), some (.int (vx_i v1)), none, none, none, none, none] [] h (vx_RV P) := by
  refine vx_iload_n (n := 1) (q := 38) (by decide +kernel) rfl ?_
  refine vx_aload_n (n := 0) (q := 39) (by decide +kernel) rfl ?_
  obtain ⟨b1, eb1, ob1, H⟩ := H
  refine vx_getR (b := b1) (idx := 109) (kd := 4) (s := 7) (fin := false) (q := 42) (by decide +kernel) (vx_Tk hT (by decide +kernel)) eb1 ?_
  refine vx_getI (idx := 118) (kd := 7) (s := 6) (fin := false) (q := 45) (by decide +kernel) (vx_Tk hT ob1) ?_
  obtain ⟨k2, H⟩ := H
  refine vx_icmp_ne (off := 8) (q := 48) (t := 53) (by decide +kernel) k2 (vx_rI_J h b1 6) (fun c3 => ?_) (fun c3 => ?_)
  · replace H := H.1 c3
    refine vx_aload_n (n := 0) (q := 54) (by decide +kernel) rfl ?_
    refine vx_getR (b := b1) (idx := 109) (kd := 4) (s := 7) (fin := false) (q := 57) (by decide +kernel) (vx_Tk hT (by decide +kernel)) eb1 ?_
    refine vx_getR (b := vx_r b1 12) (idx := 121) (kd := 7) (s := 12) (fin := true) (q := 60) (by decide +kernel) (vx_Tk hT ob1) (vx_Tr hT (kd := 7) ob1 (by decide +kernel) (vx_f7_12 ob1).1) ?_
    refine vx_iload_n (n := 1) (q := 61) (by decide +kernel) rfl ?_
    obtain ⟨k4, H⟩ := H
    refine vx_iaload (z := 6) (q := 62) (by decide +kernel) (vx_Tk hT (vx_f7_12 ob1).2.1) (vx_Tz hT ⟨(vx_f7_12 ob1).2.1.1, (vx_f7_12 ob1).2.2⟩) (vx_ix k4 (by decide)) ?_
    refine vx_istore_n (n := 2) (q := 63) (lv' := [some (.ref 21), some (.int (vx_i v1)), some (.int (vx_i (vx_J h (vx_r b1 12) v1.toNat))), none, none, none, none]) (by decide +kernel) rfl ?_
    refine vx_aload_n (n := 0) (q := 64) (by decide +kernel) rfl ?_
    refine vx_getR (b := b1) (idx := 109) (kd := 4) (s := 7) (fin := false) (q := 67) (by decide +kernel) (vx_Tk hT (by decide +kernel)) eb1 ?_
    refine vx_getR (b := vx_r b1 13) (idx := 150) (kd := 7) (s := 13) (fin := true) (q := 70) (by decide +kernel) (vx_Tk hT ob1) (vx_Tr hT (kd := 7) ob1 (by decide +kernel) (vx_f7_13 ob1).1) ?_
    refine vx_iload_n (n := 1) (q := 71) (by decide +kernel) rfl ?_
    obtain ⟨k5, H⟩ := H
    refine vx_iaload (z := 6) (q := 72) (by decide +kernel) (vx_Tk hT (vx_f7_13 ob1).2.1) (vx_Tz hT ⟨(vx_f7_13 ob1).2.1.1, (vx_f7_13 ob1).2.2⟩) (vx_ix k5 (by decide)) ?_
    refine vx_istore_n (n := 3) (q := 73) (lv' := [some (.ref 21), some (.int (vx_i v1)), some (.int (vx_i (vx_J h (vx_r b1 12) v1.toNat))), some (.int (vx_i (vx_J h (vx_r b1 13) v1.toNat))), none, none, none]) (by decide +kernel) rfl ?_
    refine vx_aload_n (n := 0) (q := 74) (by decide +kernel) rfl ?_
    refine vx_getR (b := b1) (idx := 109) (kd := 4) (s := 7) (fin := false) (q := 77) (by decide +kernel) (vx_Tk hT (by decide +kernel)) eb1 ?_
    refine vx_getR (b := vx_r b1 8) (idx := 124) (kd := 7) (s := 8) (fin := true) (q := 80) (by decide +kernel) (vx_Tk hT ob1) (vx_Tr hT (kd := 7) ob1 (by decide +kernel) (vx_f7_8 ob1).1) ?_
    refine vx_iload_n (n := 2) (q := 81) (by decide +kernel) rfl ?_
    obtain ⟨k6, H⟩ := H
    refine vx_iaload (z := 6) (q := 82) (by decide +kernel) (vx_Tk hT (vx_f7_8 ob1).2.1) (vx_Tz hT ⟨(vx_f7_8 ob1).2.1.1, (vx_f7_8 ob1).2.2⟩) (vx_ix k6 (by decide)) ?_
    refine vx_bipush (n := 14) (q := 84) (by decide +kernel) ?_
    refine vx_icmp_eq (off := 58) (q := 87) (t := 142) (by decide +kernel) (vx_rI_J h (vx_r b1 8) (vx_J h (vx_r b1 12) v1.toNat).toNat) (by decide) (fun c7 => ?_) (fun c7 => ?_)
    · replace H := H.1 c7
      refine vx_aload_n (n := 0) (q := 143) (by decide +kernel) rfl ?_
      refine vx_getR (b := b1) (idx := 109) (kd := 4) (s := 7) (fin := false) (q := 146) (by decide +kernel) (vx_Tk hT (by decide +kernel)) eb1 ?_
      refine vx_getR (b := vx_r b1 14) (idx := 160) (kd := 7) (s := 14) (fin := true) (q := 149) (by decide +kernel) (vx_Tk hT ob1) (vx_Tr hT (kd := 7) ob1 (by decide +kernel) (vx_f7_14 ob1).1) ?_
      refine vx_iload_n (n := 1) (q := 150) (by decide +kernel) rfl ?_
      obtain ⟨k8, H⟩ := H
      refine vx_zaload (z := 6) (q := 151) (by decide +kernel) (vx_Tk hT (vx_f7_14 ob1).2.1) (vx_Tz hT ⟨(vx_f7_14 ob1).2.1.1, (vx_f7_14 ob1).2.2⟩) (vx_ix k8 (by decide)) ?_
      refine vx_if0_eq (off := 34) (q := 154) (t := 185) (by decide +kernel) (vx_rI_J h (vx_r b1 14) v1.toNat) (fun c9 => ?_) (fun c9 => ?_)
      · replace H := H.1 c9
        refine vx_aload_n (n := 0) (q := 186) (by decide +kernel) rfl ?_
        refine vx_getR (b := b1) (idx := 109) (kd := 4) (s := 7) (fin := false) (q := 189) (by decide +kernel) (vx_Tk hT (by decide +kernel)) eb1 ?_
        refine vx_getR (b := vx_r b1 9) (idx := 127) (kd := 7) (s := 9) (fin := true) (q := 192) (by decide +kernel) (vx_Tk hT ob1) (vx_Tr hT (kd := 7) ob1 (by decide +kernel) (vx_f7_9 ob1).1) ?_
        refine vx_iload_n (n := 2) (q := 193) (by decide +kernel) rfl ?_
        obtain ⟨k10, H⟩ := H
        refine vx_iaload (z := 6) (q := 194) (by decide +kernel) (vx_Tk hT (vx_f7_9 ob1).2.1) (vx_Tz hT ⟨(vx_f7_9 ob1).2.1.1, (vx_f7_9 ob1).2.2⟩) (vx_ix k10 (by decide)) ?_
        refine vx_istore (n := 4) (q := 196) (lv' := [some (.ref 21), some (.int (vx_i v1)), some (.int (vx_i (vx_J h (vx_r b1 12) v1.toNat))), some (.int (vx_i (vx_J h (vx_r b1 13) v1.toNat))), some (.int (vx_i (vx_J h (vx_r b1 9) (vx_J h (vx_r b1 12) v1.toNat).toNat))), none, none]) (by decide +kernel) rfl ?_
        refine vx_aload_n (n := 0) (q := 197) (by decide +kernel) rfl ?_
        refine vx_getR (b := 22) (idx := 12) (kd := 4) (s := 0) (fin := true) (q := 200) (by decide +kernel) (vx_Tk hT (by decide +kernel)) (vx_Tr hT (kd := 4) (by decide +kernel) (by decide +kernel) (by decide +kernel)) ?_
        refine vx_getR (b := 29) (idx := 171) (kd := 8) (s := 3) (fin := true) (q := 203) (by decide +kernel) (vx_Tk hT (by decide +kernel)) (vx_Tr hT (kd := 8) (by decide +kernel) (by decide +kernel) (by decide +kernel)) ?_
        refine vx_iload (n := 4) (q := 205) (by decide +kernel) rfl ?_
        obtain ⟨k11, H⟩ := H
        refine vx_iaload (z := 16) (q := 206) (by decide +kernel) (vx_Tk hT (by decide +kernel)) (vx_Tz hT (by decide +kernel)) (vx_ix k11 (by decide)) ?_
        refine vx_istore (n := 5) (q := 208) (lv' := [some (.ref 21), some (.int (vx_i v1)), some (.int (vx_i (vx_J h (vx_r b1 12) v1.toNat))), some (.int (vx_i (vx_J h (vx_r b1 13) v1.toNat))), some (.int (vx_i (vx_J h (vx_r b1 9) (vx_J h (vx_r b1 12) v1.toNat).toNat))), some (.int (vx_i (vx_J h 29 (vx_J h (vx_r b1 9) (vx_J h (vx_r b1 12) v1.toNat).toNat).toNat))), none]) (by decide +kernel) rfl ?_
        refine vx_aload_n (n := 0) (q := 209) (by decide +kernel) rfl ?_
        refine vx_getR (b := 22) (idx := 12) (kd := 4) (s := 0) (fin := true) (q := 212) (by decide +kernel) (vx_Tk hT (by decide +kernel)) (vx_Tr hT (kd := 4) (by decide +kernel) (by decide +kernel) (by decide +kernel)) ?_
        refine vx_getR (b := 30) (idx := 174) (kd := 8) (s := 4) (fin := true) (q := 215) (by decide +kernel) (vx_Tk hT (by decide +kernel)) (vx_Tr hT (kd := 8) (by decide +kernel) (by decide +kernel) (by decide +kernel)) ?_
        refine vx_iload (n := 4) (q := 217) (by decide +kernel) rfl ?_
        obtain ⟨k12, H⟩ := H
        refine vx_iaload (z := 16) (q := 218) (by decide +kernel) (vx_Tk hT (by decide +kernel)) (vx_Tz hT (by decide +kernel)) (vx_ix k12 (by decide)) ?_
        refine vx_istore (n := 6) (q := 220) (lv' := [some (.ref 21), some (.int (vx_i v1)), some (.int (vx_i (vx_J h (vx_r b1 12) v1.toNat))), some (.int (vx_i (vx_J h (vx_r b1 13) v1.toNat))), some (.int (vx_i (vx_J h (vx_r b1 9) (vx_J h (vx_r b1 12) v1.toNat).toNat))), some (.int (vx_i (vx_J h 29 (vx_J h (vx_r b1 9) (vx_J h (vx_r b1 12) v1.toNat).toNat).toNat))), some (.int (vx_i (vx_J h 30 (vx_J h (vx_r b1 9) (vx_J h (vx_r b1 12) v1.toNat).toNat).toNat)))]) (by decide +kernel) rfl ?_
        exact H
      · replace H := H.2 c9
        refine vx_aload_n (n := 0) (q := 155) (by decide +kernel) rfl ?_
        refine vx_iload_n (n := 2) (q := 156) (by decide +kernel) rfl ?_
        refine vx_callI (i := .invokevirtual 164) (how := 3) (cm := 122) (np := 2) (q := 159) (args := [.ref 21, .int (vx_i (vx_J h (vx_r b1 12) v1.toNat))]) (rest := []) (by decide +kernel) rfl rfl rfl (vx_w2 (w := 2) (ml := 3) rfl (by decide +kernel)) (vx_rcv (kd := 4) (vx_Tk hT (by decide +kernel)) (by decide +kernel)) H (fun r13 h13 hr13 hs13 H => ?_)
        have hT13 := vx_Tsh hT hs13
        replace H := H hT13
        refine vx_istore (n := 4) (q := 161) (lv' := [some (.ref 21), some (.int (vx_i v1)), some (.int (vx_i (vx_J h (vx_r b1 12) v1.toNat))), some (.int (vx_i (vx_J h (vx_r b1 13) v1.toNat))), some (.int (vx_i r13)), none, none]) (by decide +kernel) rfl ?_
        refine vx_iload (n := 4) (q := 163) (by decide +kernel) rfl ?_
        refine vx_iconst (n := (-1)) (q := 164) (by decide +kernel) ?_
        refine vx_icmp_eq (off := 20) (q := 167) (t := 184) (by decide +kernel) hr13 (by decide) (fun c14 => ?_) (fun c14 => ?_)
        · replace H := H.1 c14
          refine vx_retV (q := 185) (by decide +kernel) ?_
          exact H
        · replace H := H.2 c14
          refine vx_aload_n (n := 0) (q := 168) (by decide +kernel) rfl ?_
          refine vx_iload (n := 4) (q := 170) (by decide +kernel) rfl ?_
          refine vx_iload_n (n := 1) (q := 171) (by decide +kernel) rfl ?_
          refine vx_callI (i := .invokevirtual 168) (how := 3) (cm := 118) (np := 3) (q := 174) (args := [.ref 21, .int (vx_i r13), .int (vx_i v1)]) (rest := []) (by decide +kernel) rfl rfl rfl (vx_w2 (w := 3) (ml := 4) rfl (by decide +kernel)) (vx_rcv (kd := 4) (vx_Tk hT13 (by decide +kernel)) (by decide +kernel)) H (fun r15 h15 hr15 hs15 H => ?_)
          have hT15 := vx_Tsh hT13 hs15
          replace H := H hT15
          refine vx_if0_eq (off := 10) (q := 177) (t := 184) (by decide +kernel) hr15 (fun c16 => ?_) (fun c16 => ?_)
          · replace H := H.1 c16
            refine vx_retV (q := 185) (by decide +kernel) ?_
            exact H
          · replace H := H.2 c16
            refine vx_aload_n (n := 0) (q := 178) (by decide +kernel) rfl ?_
            refine vx_iload_n (n := 1) (q := 179) (by decide +kernel) rfl ?_
            refine vx_iconst (n := 1) (q := 180) (by decide +kernel) ?_
            refine vx_iadd (q := 181) (by decide +kernel) ?_
            refine vx_callV (i := .invokevirtual 133) (how := 3) (cm := 109) (np := 2) (q := 184) (args := [.ref 21, .int (vx_i (v1 + 1))]) (rest := []) (by decide +kernel) rfl rfl rfl (vx_w2 (w := 2) (ml := 7) rfl (by decide +kernel)) (vx_rcv (kd := 4) (vx_Tk hT15 (by decide +kernel)) (by decide +kernel)) H (fun h17 hs17 H => ?_)
            have hT17 := vx_Tsh hT15 hs17
            replace H := H hT17
            refine vx_retV (q := 185) (by decide +kernel) ?_
            exact H
    · replace H := H.2 c7
      refine vx_aload_n (n := 0) (q := 88) (by decide +kernel) rfl ?_
      refine vx_getR (b := b1) (idx := 109) (kd := 4) (s := 7) (fin := false) (q := 91) (by decide +kernel) (vx_Tk hT (by decide +kernel)) eb1 ?_
      refine vx_getR (b := vx_r b1 8) (idx := 124) (kd := 7) (s := 8) (fin := true) (q := 94) (by decide +kernel) (vx_Tk hT ob1) (vx_Tr hT (kd := 7) ob1 (by decide +kernel) (vx_f7_8 ob1).1) ?_
      refine vx_iload_n (n := 2) (q := 95) (by decide +kernel) rfl ?_
      obtain ⟨k18, H⟩ := H
      refine vx_iaload (z := 6) (q := 96) (by decide +kernel) (vx_Tk hT (vx_f7_8 ob1).2.1) (vx_Tz hT ⟨(vx_f7_8 ob1).2.1.1, (vx_f7_8 ob1).2.2⟩) (vx_ix k18 (by decide)) ?_
      refine vx_bipush (n := 15) (q := 98) (by decide +kernel) ?_
      refine vx_icmp_ne (off := 7) (q := 101) (t := 105) (by decide +kernel) (vx_rI_J h (vx_r b1 8) (vx_J h (vx_r b1 12) v1.toNat).toNat) (by decide) (fun c19 => ?_) (fun c19 => ?_)
      · replace H := H.1 c19
        refine vx_iconst (n := 0) (q := 106) (by decide +kernel) ?_
        refine vx_istore (n := 4) (q := 108) (lv' := [some (.ref 21), some (.int (vx_i v1)), some (.int (vx_i (vx_J h (vx_r b1 12) v1.toNat))), some (.int (vx_i (vx_J h (vx_r b1 13) v1.toNat))), some (.int (vx_i 0)), none, none]) (by decide +kernel) rfl ?_
        refine vx_iload (n := 4) (q := 110) (by decide +kernel) rfl ?_
        refine vx_if0_eq (off := 15) (q := 113) (t := 125) (by decide +kernel) (by decide) (fun _ => ?_) (fun c => absurd c (by decide))
        refine vx_aload_n (n := 0) (q := 126) (by decide +kernel) rfl ?_
        refine vx_iload_n (n := 2) (q := 127) (by decide +kernel) rfl ?_
        refine vx_iload_n (n := 3) (q := 128) (by decide +kernel) rfl ?_
        refine vx_callI (i := .invokevirtual 157) (how := 3) (cm := 120) (np := 3) (q := 131) (args := [.ref 21, .int (vx_i (vx_J h (vx_r b1 12) v1.toNat)), .int (vx_i (vx_J h (vx_r b1 13) v1.toNat))]) (rest := []) (by decide +kernel) rfl rfl rfl (vx_w2 (w := 3) (ml := 4) rfl (by decide +kernel)) (vx_rcv (kd := 4) (vx_Tk hT (by decide +kernel)) (by decide +kernel)) H (fun r20 h20 hr20 hs20 H => ?_)
        have hT20 := vx_Tsh hT hs20
        replace H := H hT20
        refine vx_if0_eq (off := 10) (q := 134) (t := 141) (by decide +kernel) hr20 (fun c21 => ?_) (fun c21 => ?_)
        · replace H := H.1 c21
          refine vx_retV (q := 142) (by decide +kernel) ?_
          exact H
        · replace H := H.2 c21
          refine vx_aload_n (n := 0) (q := 135) (by decide +kernel) rfl ?_
          refine vx_iload_n (n := 1) (q := 136) (by decide +kernel) rfl ?_
          refine vx_iconst (n := 1) (q := 137) (by decide +kernel) ?_
          refine vx_iadd (q := 138) (by decide +kernel) ?_
          refine vx_callV (i := .invokevirtual 133) (how := 3) (cm := 109) (np := 2) (q := 141) (args := [.ref 21, .int (vx_i (v1 + 1))]) (rest := []) (by decide +kernel) rfl rfl rfl (vx_w2 (w := 2) (ml := 7) rfl (by decide +kernel)) (vx_rcv (kd := 4) (vx_Tk hT20 (by decide +kernel)) (by decide +kernel)) H (fun h22 hs22 H => ?_)
          have hT22 := vx_Tsh hT20 hs22
          replace H := H hT22
          refine vx_retV (q := 142) (by decide +kernel) ?_
          exact H
      · replace H := H.2 c19
        refine vx_iconst (n := 1) (q := 102) (by decide +kernel) ?_
        refine vx_goto (off := 4) (q := 105) (t := 106) (by decide +kernel) ?_
        refine vx_istore (n := 4) (q := 108) (lv' := [some (.ref 21), some (.int (vx_i v1)), some (.int (vx_i (vx_J h (vx_r b1 12) v1.toNat))), some (.int (vx_i (vx_J h (vx_r b1 13) v1.toNat))), some (.int (vx_i 1)), none, none]) (by decide +kernel) rfl ?_
        refine vx_iload (n := 4) (q := 110) (by decide +kernel) rfl ?_
        refine vx_if0_eq (off := 15) (q := 113) (t := 125) (by decide +kernel) (by decide) (fun c => absurd c (by decide)) (fun _ => ?_)
        refine vx_aload_n (n := 0) (q := 114) (by decide +kernel) rfl ?_
        refine vx_iload_n (n := 2) (q := 115) (by decide +kernel) rfl ?_
        refine vx_iload_n (n := 1) (q := 116) (by decide +kernel) rfl ?_
        refine vx_callI (i := .invokevirtual 153) (how := 3) (cm := 121) (np := 3) (q := 119) (args := [.ref 21, .int (vx_i (vx_J h (vx_r b1 12) v1.toNat)), .int (vx_i v1)]) (rest := []) (by decide +kernel) rfl rfl rfl (vx_w2 (w := 3) (ml := 6) rfl (by decide +kernel)) (vx_rcv (kd := 4) (vx_Tk hT (by decide +kernel)) (by decide +kernel)) H (fun r23 h23 hr23 hs23 H => ?_)
        have hT23 := vx_Tsh hT hs23
        replace H := H hT23
        refine vx_if0_ne (off := 22) (q := 122) (t := 141) (by decide +kernel) hr23 (fun c24 => ?_) (fun c24 => ?_)
        · replace H := H.1 c24
          refine vx_retV (q := 142) (by decide +kernel) ?_
          exact H
        · replace H := H.2 c24
          refine vx_goto (off := 12) (q := 125) (t := 134) (by decide +kernel) ?_
          refine vx_aload_n (n := 0) (q := 135) (by decide +kernel) rfl ?_
          refine vx_iload_n (n := 1) (q := 136) (by decide +kernel) rfl ?_
          refine vx_iconst (n := 1) (q := 137) (by decide +kernel) ?_
          refine vx_iadd (q := 138) (by decide +kernel) ?_
          refine vx_callV (i := .invokevirtual 133) (how := 3) (cm := 109) (np := 2) (q := 141) (args := [.ref 21, .int (vx_i (v1 + 1))]) (rest := []) (by decide +kernel) rfl rfl rfl (vx_w2 (w := 2) (ml := 7) rfl (by decide +kernel)) (vx_rcv (kd := 4) (vx_Tk hT23 (by decide +kernel)) (by decide +kernel)) H (fun h25 hs25 H => ?_)
          have hT25 := vx_Tsh hT23 hs25
          replace H := H hT25
          refine vx_retV (q := 142) (by decide +kernel) ?_
          exact H
  · replace H := H.2 c3
    refine vx_aload_n (n := 0) (q := 49) (by decide +kernel) rfl ?_
    refine vx_callV (i := .invokevirtual 147) (how := 3) (cm := 112) (np := 1) (q := 52) (args := [.ref 21]) (rest := []) (by decide +kernel) rfl rfl rfl (vx_w2 (w := 1) (ml := 1) rfl (by decide +kernel)) (vx_rcv (kd := 4) (vx_Tk hT (by decide +kernel)) (by decide +kernel)) H (fun h26 hs26 H => ?_)
    have hT26 := vx_Tsh hT hs26
    replace H := H hT26
    refine vx_retV (q := 53) (by decide +kernel) ?_
    exact H
theorem vg_109_220 {d : Nat} {h : ve_H} {P : ve_H → Prop} {v1 : Int} {v2 : Int} {v3 : Int} {v4 : Int} {v5 : Int} {v6 : Int} (hT : vx_T 1 625 h) (H : (vx_rI v6) ∧ ((v6 ≤ 0 → P h) ∧ (0 < v6 → (vx_rI v5) ∧ ((v5 = ((-1)) → P h) ∧ (v5 ≠ ((-1)) → vx_CI d 118 [.ref 21, .int (vx_i v5), .int (vx_i v1)] h (fun r5 h5 => vx_T 1 625 h5 → ((r5 = 0 → (0 ≤ v5 ∧ v5 < 201) ∧ vx_W (d + 1) 109 220 [some (.ref 21), some (.int (vx_i v1)), some (.int (vx_i v2)), some (.int (vx_i v3)), some (.int (vx_i v4)), some (.int (vx_i (vx_J h5 28 v5.toNat))), some (.int (vx_i (v6 + (-1))))] [] h5 (vx_RV P)) ∧ (r5 ≠ 0 → vx_CI d 119 [.ref 21, .int (vx_i v2), .int (vx_i v5), .int (vx_i v3)] h5 (fun r8 h8 => vx_T 1 625 h8 → ((r8 = 0 → (0 ≤ v5 ∧ v5 < 201) ∧ vx_W (d + 1) 109 220 [some (.ref 21), some (.int (vx_i v1)), some (.int (vx_i v2)), some (.int (vx_i v3)), some (.int (vx_i v4)), some (.int (vx_i (vx_J h8 28 v5.toNat))), some (.int (vx_i (v6 + (-1))))] [] h8 (vx_RV P)) ∧ (r8 ≠ 0 → vx_CV d 109 [.ref 21, .int (vx_i (v1 + 1))] h8 (fun h11 => vx_T 1 625 h11 → (0 ≤ v5 ∧ v5 < 201) ∧ vx_W (d + 1) 109 220 [some (.ref 21), some (.int (vx_i v1)), some (.int (vx_i v2)), some (.int (vx_i v3)), some (.int (vx_i v4)), some (.int (vx_i (vx_J h11 28 v5.toNat))), some (.int (vx_i (v6 + (-1))))] [] h11 (vx_RV P))))))))))))) : vx_W (d + 1) 109 220 [some (.ref 21), some (.int (vx_i v1)), some (.int (vx_i v2)), some (.int (vx_i v3)), some (.int (vx_i v4)), some (.int (vx_i v5)), some (.int (vx_i v6))] [] h (vx_RV P) := by
  refine vx_iload (n := 6) (q := 222) (by decide +kernel) rfl ?_
  obtain ⟨k1, H⟩ := H
  refine vx_if0_le (off := 55) (q := 225) (t := 277) (by decide +kernel) k1 (fun c2 => ?_) (fun c2 => ?_)
  · replace H := H.1 c2
    refine vx_retV (q := 278) (by decide +kernel) ?_
    exact H
  · replace H := H.2 c2
    refine vx_iload (n := 5) (q := 227) (by decide +kernel) rfl ?_
    refine vx_iconst (n := (-1)) (q := 228) (by decide +kernel) ?_
    obtain ⟨k3, H⟩ := H
    refine vx_icmp_eq (off := 49) (q := 231) (t := 277) (by decide +kernel) k3 (by decide) (fun c4 => ?_) (fun c4 => ?_)
    · replace H := H.1 c4
      refine vx_retV (q := 278) (by decide +kernel) ?_
      exact H
    · replace H := H.2 c4
      refine vx_aload_n (n := 0) (q := 232) (by decide +kernel) rfl ?_
      refine vx_iload (n := 5) (q := 234) (by decide +kernel) rfl ?_
      refine vx_iload_n (n := 1) (q := 235) (by decide +kernel) rfl ?_
      refine vx_callI (i := .invokevirtual 168) (how := 3) (cm := 118) (np := 3) (q := 238) (args := [.ref 21, .int (vx_i v5), .int (vx_i v1)]) (rest := []) (by decide +kernel) rfl rfl rfl (vx_w2 (w := 3) (ml := 4) rfl (by decide +kernel)) (vx_rcv (kd := 4) (vx_Tk hT (by decide +kernel)) (by decide +kernel)) H (fun r5 h5 hr5 hs5 H => ?_)
      have hT5 := vx_Tsh hT hs5
      replace H := H hT5
      refine vx_if0_eq (off := 21) (q := 241) (t := 259) (by decide +kernel) hr5 (fun c6 => ?_) (fun c6 => ?_)
      · replace H := H.1 c6
        refine vx_aload_n (n := 0) (q := 260) (by decide +kernel) rfl ?_
        refine vx_getR (b := 22) (idx := 12) (kd := 4) (s := 0) (fin := true) (q := 263) (by decide +kernel) (vx_Tk hT5 (by decide +kernel)) (vx_Tr hT5 (kd := 4) (by decide +kernel) (by decide +kernel) (by decide +kernel)) ?_
        refine vx_getR (b := 28) (idx := 181) (kd := 8) (s := 2) (fin := true) (q := 266) (by decide +kernel) (vx_Tk hT5 (by decide +kernel)) (vx_Tr hT5 (kd := 8) (by decide +kernel) (by decide +kernel) (by decide +kernel)) ?_
        refine vx_iload (n := 5) (q := 268) (by decide +kernel) rfl ?_
        obtain ⟨k7, H⟩ := H
        refine vx_iaload (z := 201) (q := 269) (by decide +kernel) (vx_Tk hT5 (by decide +kernel)) (vx_Tz hT5 (by decide +kernel)) (vx_ix k7 (by decide)) ?_
        refine vx_istore (n := 5) (q := 271) (lv' := [some (.ref 21), some (.int (vx_i v1)), some (.int (vx_i v2)), some (.int (vx_i v3)), some (.int (vx_i v4)), some (.int (vx_i (vx_J h5 28 v5.toNat))), some (.int (vx_i v6))]) (by decide +kernel) rfl ?_
        refine vx_iinc (n := 6) (m := (-1)) (x := v6) (q := 274) (lv' := [some (.ref 21), some (.int (vx_i v1)), some (.int (vx_i v2)), some (.int (vx_i v3)), some (.int (vx_i v4)), some (.int (vx_i (vx_J h5 28 v5.toNat))), some (.int (vx_i (v6 + (-1))))]) (by decide +kernel) rfl rfl ?_
        refine vx_goto (off := (-54)) (q := 277) (t := 220) (by decide +kernel) ?_
        exact H
      · replace H := H.2 c6
        refine vx_aload_n (n := 0) (q := 242) (by decide +kernel) rfl ?_
        refine vx_iload_n (n := 2) (q := 243) (by decide +kernel) rfl ?_
        refine vx_iload (n := 5) (q := 245) (by decide +kernel) rfl ?_
        refine vx_iload_n (n := 3) (q := 246) (by decide +kernel) rfl ?_
        refine vx_callI (i := .invokevirtual 177) (how := 3) (cm := 119) (np := 4) (q := 249) (args := [.ref 21, .int (vx_i v2), .int (vx_i v5), .int (vx_i v3)]) (rest := []) (by decide +kernel) rfl rfl rfl (vx_w2 (w := 4) (ml := 11) rfl (by decide +kernel)) (vx_rcv (kd := 4) (vx_Tk hT5 (by decide +kernel)) (by decide +kernel)) H (fun r8 h8 hr8 hs8 H => ?_)
        have hT8 := vx_Tsh hT5 hs8
        replace H := H hT8
        refine vx_if0_eq (off := 10) (q := 252) (t := 259) (by decide +kernel) hr8 (fun c9 => ?_) (fun c9 => ?_)
        · replace H := H.1 c9
          refine vx_aload_n (n := 0) (q := 260) (by decide +kernel) rfl ?_
          refine vx_getR (b := 22) (idx := 12) (kd := 4) (s := 0) (fin := true) (q := 263) (by decide +kernel) (vx_Tk hT8 (by decide +kernel)) (vx_Tr hT8 (kd := 4) (by decide +kernel) (by decide +kernel) (by decide +kernel)) ?_
          refine vx_getR (b := 28) (idx := 181) (kd := 8) (s := 2) (fin := true) (q := 266) (by decide +kernel) (vx_Tk hT8 (by decide +kernel)) (vx_Tr hT8 (kd := 8) (by decide +kernel) (by decide +kernel) (by decide +kernel)) ?_
          refine vx_iload (n := 5) (q := 268) (by decide +kernel) rfl ?_
          obtain ⟨k10, H⟩ := H
          refine vx_iaload (z := 201) (q := 269) (by decide +kernel) (vx_Tk hT8 (by decide +kernel)) (vx_Tz hT8 (by decide +kernel)) (vx_ix k10 (by decide)) ?_
          refine vx_istore (n := 5) (q := 271) (lv' := [some (.ref 21), some (.int (vx_i v1)), some (.int (vx_i v2)), some (.int (vx_i v3)), some (.int (vx_i v4)), some (.int (vx_i (vx_J h8 28 v5.toNat))), some (.int (vx_i v6))]) (by decide +kernel) rfl ?_
          refine vx_iinc (n := 6) (m := (-1)) (x := v6) (q := 274) (lv' := [some (.ref 21), some (.int (vx_i v1)), some (.int (vx_i v2)), some (.int (vx_i v3)), some (.int (vx_i v4)), some (.int (vx_i (vx_J h8 28 v5.toNat))), some (.int (vx_i (v6 + (-1))))]) (by decide +kernel) rfl rfl ?_
          refine vx_goto (off := (-54)) (q := 277) (t := 220) (by decide +kernel) ?_
          exact H
        · replace H := H.2 c9
          refine vx_aload_n (n := 0) (q := 253) (by decide +kernel) rfl ?_
          refine vx_iload_n (n := 1) (q := 254) (by decide +kernel) rfl ?_
          refine vx_iconst (n := 1) (q := 255) (by decide +kernel) ?_
          refine vx_iadd (q := 256) (by decide +kernel) ?_
          refine vx_callV (i := .invokevirtual 133) (how := 3) (cm := 109) (np := 2) (q := 259) (args := [.ref 21, .int (vx_i (v1 + 1))]) (rest := []) (by decide +kernel) rfl rfl rfl (vx_w2 (w := 2) (ml := 7) rfl (by decide +kernel)) (vx_rcv (kd := 4) (vx_Tk hT8 (by decide +kernel)) (by decide +kernel)) H (fun h11 hs11 H => ?_)
          have hT11 := vx_Tsh hT8 hs11
          replace H := H hT11
          refine vx_aload_n (n := 0) (q := 260) (by decide +kernel) rfl ?_
          refine vx_getR (b := 22) (idx := 12) (kd := 4) (s := 0) (fin := true) (q := 263) (by decide +kernel) (vx_Tk hT11 (by decide +kernel)) (vx_Tr hT11 (kd := 4) (by decide +kernel) (by decide +kernel) (by decide +kernel)) ?_
          refine vx_getR (b := 28) (idx := 181) (kd := 8) (s := 2) (fin := true) (q := 266) (by decide +kernel) (vx_Tk hT11 (by decide +kernel)) (vx_Tr hT11 (kd := 8) (by decide +kernel) (by decide +kernel) (by decide +kernel)) ?_
          refine vx_iload (n := 5) (q := 268) (by decide +kernel) rfl ?_
          obtain ⟨k12, H⟩ := H
          refine vx_iaload (z := 201) (q := 269) (by decide +kernel) (vx_Tk hT11 (by decide +kernel)) (vx_Tz hT11 (by decide +kernel)) (vx_ix k12 (by decide)) ?_
          refine vx_istore (n := 5) (q := 271) (lv' := [some (.ref 21), some (.int (vx_i v1)), some (.int (vx_i v2)), some (.int (vx_i v3)), some (.int (vx_i v4)), some (.int (vx_i (vx_J h11 28 v5.toNat))), some (.int (vx_i v6))]) (by decide +kernel) rfl ?_
          refine vx_iinc (n := 6) (m := (-1)) (x := v6) (q := 274) (lv' := [some (.ref 21), some (.int (vx_i v1)), some (.int (vx_i v2)), some (.int (vx_i v3)), some (.int (vx_i v4)), some (.int (vx_i (vx_J h11 28 v5.toNat))), some (.int (vx_i (v6 + (-1))))]) (by decide +kernel) rfl rfl ?_
          refine vx_goto (off := (-54)) (q := 277) (t := 220) (by decide +kernel) ?_
          exact H
-- RuleHouse$Engine.isFound()Z
theorem vg_110 {d : Nat} {h : ve_H} {P : Int → ve_H → Prop}  (hT : vx_T 1 625 h) (H : vx_CV d 111 [.ref 21] h (fun h1 => vx_T 1 625 h1 → (∃ b2, ve_R h1 21 8 = some b2 ∧ vx_o 1 625 6 b2 ∧ vx_CI d 173 [.ref b2, .ref 32] h1 (fun r3 h3 => vx_T 1 625 h3 → ((r3 = ((-1)) → P 0 h3) ∧ (r3 ≠ ((-1)) → P 1 h3)))))) : vx_CI (d + 1) 110 [.ref 21] h P := by
  refine vx_enter (ml := 1) (by decide +kernel) ?_
  show vx_W _ _ 0 [some (.ref 21)] [] h _
  refine vx_aload_n (n := 0) (q := 1) (by decide +kernel) rfl ?_
  refine vx_callV (i := .invokevirtual 184) (how := 3) (cm := 111) (np := 1) (q := 4) (args := [.ref 21]) (rest := []) (by decide +kernel) rfl rfl rfl (vx_w2 (w := 1) (ml := 2) rfl (by decide +kernel)) (vx_rcv (kd := 4) (vx_Tk hT (by decide +kernel)) (by decide +kernel)) H (fun h1 hs1 H => ?_)
  have hT1 := vx_Tsh hT hs1
  replace H := H hT1
  refine vx_aload_n (n := 0) (q := 5) (by decide +kernel) rfl ?_
  obtain ⟨b2, eb2, ob2, H⟩ := H
  refine vx_getR (b := b2) (idx := 115) (kd := 4) (s := 8) (fin := false) (q := 8) (by decide +kernel) (vx_Tk hT1 (by decide +kernel)) eb2 ?_
  refine vx_aload_n (n := 0) (q := 9) (by decide +kernel) rfl ?_
  refine vx_getR (b := 32) (idx := 22) (kd := 4) (s := 2) (fin := true) (q := 12) (by decide +kernel) (vx_Tk hT1 (by decide +kernel)) (vx_Tr hT1 (kd := 4) (by decide +kernel) (by decide +kernel) (by decide +kernel)) ?_
  refine vx_callI (i := .invokevirtual 187) (how := 3) (cm := 173) (np := 2) (q := 15) (args := [.ref b2, .ref 32]) (rest := []) (by decide +kernel) rfl rfl rfl (vx_w2 (w := 2) (ml := 2) rfl (by decide +kernel)) (vx_rcv (kd := 6) (vx_Tk hT1 ob2) (by decide +kernel)) H (fun r3 h3 hr3 hs3 H => ?_)
  have hT3 := vx_Tsh hT1 hs3
  replace H := H hT3
  refine vx_iconst (n := (-1)) (q := 16) (by decide +kernel) ?_
  refine vx_icmp_eq (off := 7) (q := 19) (t := 23) (by decide +kernel) hr3 (by decide) (fun c4 => ?_) (fun c4 => ?_)
  · replace H := H.1 c4
    refine vx_iconst (n := 0) (q := 24) (by decide +kernel) ?_
    refine vx_retZ (q := 25) (by decide +kernel) (Or.inl rfl) ?_
    exact H
  · replace H := H.2 c4
    refine vx_iconst (n := 1) (q := 20) (by decide +kernel) ?_
    refine vx_goto (off := 4) (q := 23) (t := 24) (by decide +kernel) ?_
    refine vx_retZ (q := 25) (by decide +kernel) (Or.inr rfl) ?_
    exact H
-- RuleHouse$Engine.fillGoal()V
theorem vg_111 {d : Nat} {h : ve_H} {P : ve_H → Prop}  (hT : vx_T 1 625 h) (H : (∃ b1, ve_R h 21 7 = some b1 ∧ vx_o 1 625 7 b1 ∧ (((vx_J h b1 0) ≠ ((-1)) → (∀ h3, h3 = vx_sK h 32 0 (vx_J h b1 0) → vx_T 1 625 h3 → vx_W (d + 1) 111 69 [some (.ref 21), some (.int (vx_i 0))] [] h3 (vx_RV P))) ∧ ((vx_J h b1 0) = ((-1)) → vx_W (d + 1) 111 13 [some (.ref 21), some (.int (vx_i 0))] [] h (vx_RV P))))) : vx_CV (d + 1) 111 [.ref 21] h P := by
  refine vx_enter (ml := 2) (by decide +kernel) ?_
  show vx_W _ _ 0 [some (.ref 21), none] [] h _
  refine vx_aload_n (n := 0) (q := 1) (by decide +kernel) rfl ?_
  obtain ⟨b1, eb1, ob1, H⟩ := H
  refine vx_getR (b := b1) (idx := 109) (kd := 4) (s := 7) (fin := false) (q := 4) (by decide +kernel) (vx_Tk hT (by decide +kernel)) eb1 ?_
  refine vx_getI (idx := 104) (kd := 7) (s := 0) (fin := false) (q := 7) (by decide +kernel) (vx_Tk hT ob1) ?_
  refine vx_iconst (n := (-1)) (q := 8) (by decide +kernel) ?_
  refine vx_icmp_ne (off := 45) (q := 11) (t := 53) (by decide +kernel) (vx_rI_J h b1 0) (by decide) (fun c2 => ?_) (fun c2 => ?_)
  · replace H := H.1 c2
    refine vx_aload_n (n := 0) (q := 54) (by decide +kernel) rfl ?_
    refine vx_getR (b := 32) (idx := 22) (kd := 4) (s := 2) (fin := true) (q := 57) (by decide +kernel) (vx_Tk hT (by decide +kernel)) (vx_Tr hT (kd := 4) (by decide +kernel) (by decide +kernel) (by decide +kernel)) ?_
    refine vx_iconst (n := 0) (q := 58) (by decide +kernel) ?_
    refine vx_aload_n (n := 0) (q := 59) (by decide +kernel) rfl ?_
    refine vx_getR (b := b1) (idx := 109) (kd := 4) (s := 7) (fin := false) (q := 62) (by decide +kernel) (vx_Tk hT (by decide +kernel)) eb1 ?_
    refine vx_getI (idx := 104) (kd := 7) (s := 0) (fin := false) (q := 65) (by decide +kernel) (vx_Tk hT ob1) ?_
    refine vx_i2l (q := 66) (by decide +kernel) (vx_rI_J h b1 0) ?_
    refine vx_lastore (z := 8) (q := 67) (by decide +kernel) (vx_Tk hT (by decide +kernel)) (vx_Tz hT (by decide +kernel)) (by decide) (fun h3 e3 => ?_)
    have hT3 := vx_TK hT e3
    replace H := H h3 e3 hT3
    refine vx_iconst (n := 0) (q := 68) (by decide +kernel) ?_
    refine vx_istore_n (n := 1) (q := 69) (lv' := [some (.ref 21), some (.int (vx_i 0))]) (by decide +kernel) rfl ?_
    exact H
  · replace H := H.2 c2
    refine vx_iconst (n := 0) (q := 12) (by decide +kernel) ?_
    refine vx_istore_n (n := 1) (q := 13) (lv' := [some (.ref 21), some (.int (vx_i 0))]) (by decide +kernel) rfl ?_
    exact H
theorem vg_111_13 {d : Nat} {h : ve_H} {P : ve_H → Prop} {v1 : Int} (hT : vx_T 1 625 h) (H : (vx_rI v1) ∧ ((8 ≤ v1 → P h) ∧ (v1 < 8 → (∃ b3, ve_R h 21 7 = some b3 ∧ vx_o 1 625 7 b3 ∧ (((vx_J h b3 5) ≤ v1 → (0 ≤ v1 ∧ v1 < 8) ∧ (∀ h6, h6 = vx_sK h 32 v1.toNat 0 → vx_T 1 625 h6 → vx_W (d + 1) 111 13 [some (.ref 21), some (.int (vx_i (v1 + 1)))] [] h6 (vx_RV P))) ∧ (v1 < (vx_J h b3 5) → (0 ≤ v1 ∧ v1 < 8) ∧ (0 ≤ v1 ∧ v1 < 8) ∧ (∀ h9, h9 = vx_sK h 32 v1.toNat (vx_K h 31 v1.toNat) → vx_T 1 625 h9 → vx_W (d + 1) 111 13 [some (.ref 21), some (.int (vx_i (v1 + 1)))] [] h9 (vx_RV P)))))))) : vx_W (d + 1) 111 13 [some (.ref 21), some (.int (vx_i v1))] [] h (vx_RV P) := by
  refine vx_iload_n (n := 1) (q := 14) (by decide +kernel) rfl ?_
  refine vx_bipush (n := 8) (q := 16) (by decide +kernel) ?_
  obtain ⟨k1, H⟩ := H
  refine vx_icmp_ge (off := 36) (q := 19) (t := 52) (by decide +kernel) k1 (by decide) (fun c2 => ?_) (fun c2 => ?_)
  · replace H := H.1 c2
    refine vx_retV (q := 53) (by decide +kernel) ?_
    exact H
  · replace H := H.2 c2
    refine vx_aload_n (n := 0) (q := 20) (by decide +kernel) rfl ?_
    refine vx_getR (b := 32) (idx := 22) (kd := 4) (s := 2) (fin := true) (q := 23) (by decide +kernel) (vx_Tk hT (by decide +kernel)) (vx_Tr hT (kd := 4) (by decide +kernel) (by decide +kernel) (by decide +kernel)) ?_
    refine vx_iload_n (n := 1) (q := 24) (by decide +kernel) rfl ?_
    refine vx_iload_n (n := 1) (q := 25) (by decide +kernel) rfl ?_
    refine vx_aload_n (n := 0) (q := 26) (by decide +kernel) rfl ?_
    obtain ⟨b3, eb3, ob3, H⟩ := H
    refine vx_getR (b := b3) (idx := 109) (kd := 4) (s := 7) (fin := false) (q := 29) (by decide +kernel) (vx_Tk hT (by decide +kernel)) eb3 ?_
    refine vx_getI (idx := 191) (kd := 7) (s := 5) (fin := false) (q := 32) (by decide +kernel) (vx_Tk hT ob3) ?_
    refine vx_icmp_ge (off := 12) (q := 35) (t := 44) (by decide +kernel) k1 (vx_rI_J h b3 5) (fun c4 => ?_) (fun c4 => ?_)
    · replace H := H.1 c4
      refine vx_lconst (n := 0) (m := 0) (q := 45) (by decide +kernel) ?_
      obtain ⟨k5, H⟩ := H
      refine vx_lastore (z := 8) (q := 46) (by decide +kernel) (vx_Tk hT (by decide +kernel)) (vx_Tz hT (by decide +kernel)) (vx_ix k5 (by decide)) (fun h6 e6 => ?_)
      have hT6 := vx_TK hT e6
      replace H := H h6 e6 hT6
      refine vx_iinc (n := 1) (m := 1) (x := v1) (q := 49) (lv' := [some (.ref 21), some (.int (vx_i (v1 + 1)))]) (by decide +kernel) rfl rfl ?_
      refine vx_goto (off := (-36)) (q := 52) (t := 13) (by decide +kernel) ?_
      exact H
    · replace H := H.2 c4
      refine vx_aload_n (n := 0) (q := 36) (by decide +kernel) rfl ?_
      refine vx_getR (b := 31) (idx := 18) (kd := 4) (s := 1) (fin := true) (q := 39) (by decide +kernel) (vx_Tk hT (by decide +kernel)) (vx_Tr hT (kd := 4) (by decide +kernel) (by decide +kernel) (by decide +kernel)) ?_
      refine vx_iload_n (n := 1) (q := 40) (by decide +kernel) rfl ?_
      obtain ⟨k7, H⟩ := H
      refine vx_laload (z := 8) (q := 41) (by decide +kernel) (vx_Tk hT (by decide +kernel)) (vx_Tz hT (by decide +kernel)) (vx_ix k7 (by decide)) ?_
      refine vx_goto (off := 4) (q := 44) (t := 45) (by decide +kernel) ?_
      obtain ⟨k8, H⟩ := H
      refine vx_lastore (z := 8) (q := 46) (by decide +kernel) (vx_Tk hT (by decide +kernel)) (vx_Tz hT (by decide +kernel)) (vx_ix k8 (by decide)) (fun h9 e9 => ?_)
      have hT9 := vx_TK hT e9
      replace H := H h9 e9 hT9
      refine vx_iinc (n := 1) (m := 1) (x := v1) (q := 49) (lv' := [some (.ref 21), some (.int (vx_i (v1 + 1)))]) (by decide +kernel) rfl rfl ?_
      refine vx_goto (off := (-36)) (q := 52) (t := 13) (by decide +kernel) ?_
      exact H
theorem vg_111_69 {d : Nat} {h : ve_H} {P : ve_H → Prop} {v1 : Int} (hT : vx_T 1 625 h) (H : (vx_rI v1) ∧ ((4 ≤ v1 → P h) ∧ (v1 < 4 → (∃ b3, ve_R h 21 7 = some b3 ∧ vx_o 1 625 7 b3 ∧ (0 ≤ v1 ∧ v1 < 4) ∧ vx_CL d 127 [.ref 21, .long (vx_l (vx_K h (vx_r b3 1) v1.toNat))] h (fun r5 h5 => vx_T 1 625 h5 → (0 ≤ (v1 + 1) ∧ (v1 + 1) < 8) ∧ (∀ h7, h7 = vx_sK h5 32 (v1 + 1).toNat r5 → vx_T 1 625 h7 → vx_W (d + 1) 111 69 [some (.ref 21), some (.int (vx_i (v1 + 1)))] [] h7 (vx_RV P))))))) : vx_W (d + 1) 111 69 [some (.ref 21), some (.int (vx_i v1))] [] h (vx_RV P) := by
  refine vx_iload_n (n := 1) (q := 70) (by decide +kernel) rfl ?_
  refine vx_iconst (n := 4) (q := 71) (by decide +kernel) ?_
  obtain ⟨k1, H⟩ := H
  refine vx_icmp_ge (off := 30) (q := 74) (t := 101) (by decide +kernel) k1 (by decide) (fun c2 => ?_) (fun c2 => ?_)
  · replace H := H.1 c2
    refine vx_retV (q := 102) (by decide +kernel) ?_
    exact H
  · replace H := H.2 c2
    refine vx_aload_n (n := 0) (q := 75) (by decide +kernel) rfl ?_
    refine vx_getR (b := 32) (idx := 22) (kd := 4) (s := 2) (fin := true) (q := 78) (by decide +kernel) (vx_Tk hT (by decide +kernel)) (vx_Tr hT (kd := 4) (by decide +kernel) (by decide +kernel) (by decide +kernel)) ?_
    refine vx_iload_n (n := 1) (q := 79) (by decide +kernel) rfl ?_
    refine vx_iconst (n := 1) (q := 80) (by decide +kernel) ?_
    refine vx_iadd (q := 81) (by decide +kernel) ?_
    refine vx_aload_n (n := 0) (q := 82) (by decide +kernel) rfl ?_
    refine vx_aload_n (n := 0) (q := 83) (by decide +kernel) rfl ?_
    obtain ⟨b3, eb3, ob3, H⟩ := H
    refine vx_getR (b := b3) (idx := 109) (kd := 4) (s := 7) (fin := false) (q := 86) (by decide +kernel) (vx_Tk hT (by decide +kernel)) eb3 ?_
    refine vx_getR (b := vx_r b3 1) (idx := 194) (kd := 7) (s := 1) (fin := true) (q := 89) (by decide +kernel) (vx_Tk hT ob3) (vx_Tr hT (kd := 7) ob3 (by decide +kernel) (vx_f7_1 ob3).1) ?_
    refine vx_iload_n (n := 1) (q := 90) (by decide +kernel) rfl ?_
    obtain ⟨k4, H⟩ := H
    refine vx_laload (z := 4) (q := 91) (by decide +kernel) (vx_Tk hT (vx_f7_1 ob3).2.1) (vx_Tz hT ⟨(vx_f7_1 ob3).2.1.1, (vx_f7_1 ob3).2.2⟩) (vx_ix k4 (by decide)) ?_
    refine vx_callL (i := .invokevirtual 197) (how := 3) (cm := 127) (np := 2) (q := 94) (args := [.ref 21, .long (vx_l (vx_K h (vx_r b3 1) v1.toNat))]) (rest := [.int (vx_i (v1 + 1)), .ref 32]) (by decide +kernel) rfl rfl rfl (vx_w2 (w := 3) (ml := 3) rfl (by decide +kernel)) (vx_rcv (kd := 4) (vx_Tk hT (by decide +kernel)) (by decide +kernel)) H (fun r5 h5 hr5 hs5 H => ?_)
    have hT5 := vx_Tsh hT hs5
    replace H := H hT5
    obtain ⟨k6, H⟩ := H
    refine vx_lastore (z := 8) (q := 95) (by decide +kernel) (vx_Tk hT5 (by decide +kernel)) (vx_Tz hT5 (by decide +kernel)) (vx_ix k6 (by decide)) (fun h7 e7 => ?_)
    have hT7 := vx_TK hT5 e7
    replace H := H h7 e7 hT7
    refine vx_iinc (n := 1) (m := 1) (x := v1) (q := 98) (lv' := [some (.ref 21), some (.int (vx_i (v1 + 1)))]) (by decide +kernel) rfl rfl ?_
    refine vx_goto (off := (-29)) (q := 101) (t := 69) (by decide +kernel) ?_
    exact H
-- RuleHouse$Engine.take()V
theorem vg_112 {d : Nat} {h : ve_H} {P : ve_H → Prop}  (hT : vx_T 1 625 h) (H : vx_CV d 111 [.ref 21] h (fun h1 => vx_T 1 625 h1 → (∃ b2, ve_R h1 21 7 = some b2 ∧ vx_o 1 625 7 b2 ∧ (((vx_J h1 b2 0) ≠ ((-1)) → (((vx_J h1 b2 2) ≠ ((-1)) → vx_CV d 114 [.ref 21] h1 (fun h5 => vx_T 1 625 h5 → P h5)) ∧ ((vx_J h1 b2 2) = ((-1)) → vx_CV d 113 [.ref 21] h1 (fun h6 => vx_T 1 625 h6 → P h6)))) ∧ ((vx_J h1 b2 0) = ((-1)) → (∃ b7, ve_R h1 21 8 = some b7 ∧ vx_o 1 625 6 b7 ∧ vx_CI d 174 [.ref b7, .ref 32] h1 (fun r8 h8 => vx_T 1 625 h8 → (∃ b9, ve_R h8 21 8 = some b9 ∧ vx_o 1 625 6 b9 ∧ (((vx_J h8 b9 4) ≤ 200 → (∀ h11, h11 = vx_sJ h8 21 12 0 → vx_T 1 625 h11 → P h11)) ∧ (200 < (vx_J h8 b9 4) → (∀ h12, h12 = vx_sJ h8 21 12 1 → vx_T 1 625 h12 → P h12))))))))))) : vx_CV (d + 1) 112 [.ref 21] h P := by
  refine vx_enter (ml := 1) (by decide +kernel) ?_
  show vx_W _ _ 0 [some (.ref 21)] [] h _
  refine vx_aload_n (n := 0) (q := 1) (by decide +kernel) rfl ?_
  refine vx_callV (i := .invokevirtual 184) (how := 3) (cm := 111) (np := 1) (q := 4) (args := [.ref 21]) (rest := []) (by decide +kernel) rfl rfl rfl (vx_w2 (w := 1) (ml := 2) rfl (by decide +kernel)) (vx_rcv (kd := 4) (vx_Tk hT (by decide +kernel)) (by decide +kernel)) H (fun h1 hs1 H => ?_)
  have hT1 := vx_Tsh hT hs1
  replace H := H hT1
  refine vx_aload_n (n := 0) (q := 5) (by decide +kernel) rfl ?_
  obtain ⟨b2, eb2, ob2, H⟩ := H
  refine vx_getR (b := b2) (idx := 109) (kd := 4) (s := 7) (fin := false) (q := 8) (by decide +kernel) (vx_Tk hT1 (by decide +kernel)) eb2 ?_
  refine vx_getI (idx := 104) (kd := 7) (s := 0) (fin := false) (q := 11) (by decide +kernel) (vx_Tk hT1 ob2) ?_
  refine vx_iconst (n := (-1)) (q := 12) (by decide +kernel) ?_
  refine vx_icmp_ne (off := 40) (q := 15) (t := 52) (by decide +kernel) (vx_rI_J h1 b2 0) (by decide) (fun c3 => ?_) (fun c3 => ?_)
  · replace H := H.1 c3
    refine vx_aload_n (n := 0) (q := 53) (by decide +kernel) rfl ?_
    refine vx_getR (b := b2) (idx := 109) (kd := 4) (s := 7) (fin := false) (q := 56) (by decide +kernel) (vx_Tk hT1 (by decide +kernel)) eb2 ?_
    refine vx_getI (idx := 112) (kd := 7) (s := 2) (fin := false) (q := 59) (by decide +kernel) (vx_Tk hT1 ob2) ?_
    refine vx_iconst (n := (-1)) (q := 60) (by decide +kernel) ?_
    refine vx_icmp_ne (off := 10) (q := 63) (t := 70) (by decide +kernel) (vx_rI_J h1 b2 2) (by decide) (fun c4 => ?_) (fun c4 => ?_)
    · replace H := H.1 c4
      refine vx_aload_n (n := 0) (q := 71) (by decide +kernel) rfl ?_
      refine vx_callV (i := .invokevirtual 204) (how := 3) (cm := 114) (np := 1) (q := 74) (args := [.ref 21]) (rest := []) (by decide +kernel) rfl rfl rfl (vx_w2 (w := 1) (ml := 4) rfl (by decide +kernel)) (vx_rcv (kd := 4) (vx_Tk hT1 (by decide +kernel)) (by decide +kernel)) H (fun h5 hs5 H => ?_)
      have hT5 := vx_Tsh hT1 hs5
      replace H := H hT5
      refine vx_retV (q := 75) (by decide +kernel) ?_
      exact H
    · replace H := H.2 c4
      refine vx_aload_n (n := 0) (q := 64) (by decide +kernel) rfl ?_
      refine vx_callV (i := .invokevirtual 101) (how := 3) (cm := 113) (np := 1) (q := 67) (args := [.ref 21]) (rest := []) (by decide +kernel) rfl rfl rfl (vx_w2 (w := 1) (ml := 2) rfl (by decide +kernel)) (vx_rcv (kd := 4) (vx_Tk hT1 (by decide +kernel)) (by decide +kernel)) H (fun h6 hs6 H => ?_)
      have hT6 := vx_Tsh hT1 hs6
      replace H := H hT6
      refine vx_goto (off := 7) (q := 70) (t := 74) (by decide +kernel) ?_
      refine vx_retV (q := 75) (by decide +kernel) ?_
      exact H
  · replace H := H.2 c3
    refine vx_aload_n (n := 0) (q := 16) (by decide +kernel) rfl ?_
    obtain ⟨b7, eb7, ob7, H⟩ := H
    refine vx_getR (b := b7) (idx := 115) (kd := 4) (s := 8) (fin := false) (q := 19) (by decide +kernel) (vx_Tk hT1 (by decide +kernel)) eb7 ?_
    refine vx_aload_n (n := 0) (q := 20) (by decide +kernel) rfl ?_
    refine vx_getR (b := 32) (idx := 22) (kd := 4) (s := 2) (fin := true) (q := 23) (by decide +kernel) (vx_Tk hT1 (by decide +kernel)) (vx_Tr hT1 (kd := 4) (by decide +kernel) (by decide +kernel) (by decide +kernel)) ?_
    refine vx_callI (i := .invokevirtual 201) (how := 3) (cm := 174) (np := 2) (q := 26) (args := [.ref b7, .ref 32]) (rest := []) (by decide +kernel) rfl rfl rfl (vx_w2 (w := 2) (ml := 3) rfl (by decide +kernel)) (vx_rcv (kd := 6) (vx_Tk hT1 ob7) (by decide +kernel)) H (fun r8 h8 hr8 hs8 H => ?_)
    have hT8 := vx_Tsh hT1 hs8
    replace H := H hT8
    refine vx_popI (q := 27) (by decide +kernel) ?_
    refine vx_aload_n (n := 0) (q := 28) (by decide +kernel) rfl ?_
    refine vx_aload_n (n := 0) (q := 29) (by decide +kernel) rfl ?_
    obtain ⟨b9, eb9, ob9, H⟩ := H
    refine vx_getR (b := b9) (idx := 115) (kd := 4) (s := 8) (fin := false) (q := 32) (by decide +kernel) (vx_Tk hT8 (by decide +kernel)) eb9 ?_
    refine vx_getI (idx := 66) (kd := 6) (s := 4) (fin := false) (q := 35) (by decide +kernel) (vx_Tk hT8 ob9) ?_
    refine vx_sipush (n := 200) (q := 38) (by decide +kernel) ?_
    refine vx_icmp_le (off := 7) (q := 41) (t := 45) (by decide +kernel) (vx_rI_J h8 b9 4) (by decide) (fun c10 => ?_) (fun c10 => ?_)
    · replace H := H.1 c10
      refine vx_iconst (n := 0) (q := 46) (by decide +kernel) ?_
      refine vx_putZ (idx := 47) (kd := 4) (s := 12) (fin := false) (q := 49) (by decide +kernel) (vx_Tk hT8 (by decide +kernel)) (Or.inl rfl) (fun h11 e11 => ?_)
      have hT11 := vx_TJ hT8 e11
      replace H := H h11 e11 hT11
      refine vx_goto (off := 25) (q := 52) (t := 74) (by decide +kernel) ?_
      refine vx_retV (q := 75) (by decide +kernel) ?_
      exact H
    · replace H := H.2 c10
      refine vx_iconst (n := 1) (q := 42) (by decide +kernel) ?_
      refine vx_goto (off := 4) (q := 45) (t := 46) (by decide +kernel) ?_
      refine vx_putZ (idx := 47) (kd := 4) (s := 12) (fin := false) (q := 49) (by decide +kernel) (vx_Tk hT8 (by decide +kernel)) (Or.inr rfl) (fun h12 e12 => ?_)
      have hT12 := vx_TJ hT8 e12
      replace H := H h12 e12 hT12
      refine vx_goto (off := 25) (q := 52) (t := 74) (by decide +kernel) ?_
      refine vx_retV (q := 75) (by decide +kernel) ?_
      exact H
-- RuleHouse$Engine.addTuple()V
theorem vg_113 {d : Nat} {h : ve_H} {P : ve_H → Prop}  (hT : vx_T 1 625 h) (H : vx_CI d 174 [.ref 23, .ref 32] h (fun r1 h1 => vx_T 1 625 h1 → ((r1 = ((-1)) → (((vx_J h1 23 4) ≤ 200 → (∀ h4, h4 = vx_sJ h1 21 12 0 → vx_T 1 625 h4 → P h4)) ∧ (200 < (vx_J h1 23 4) → (∀ h5, h5 = vx_sJ h1 21 12 1 → vx_T 1 625 h5 → P h5)))) ∧ (r1 ≠ ((-1)) → vx_CV d 132 [.ref 22, .int (vx_i r1), .int (vx_i (vx_K h1 32 0)), .int (vx_i (vx_J h1 21 10))] h1 (fun h6 => vx_T 1 625 h6 → (((vx_J h6 23 4) ≤ 200 → (∀ h8, h8 = vx_sJ h6 21 12 0 → vx_T 1 625 h8 → P h8)) ∧ (200 < (vx_J h6 23 4) → (∀ h9, h9 = vx_sJ h6 21 12 1 → vx_T 1 625 h9 → P h9)))))))) : vx_CV (d + 1) 113 [.ref 21] h P := by
  refine vx_enter (ml := 2) (by decide +kernel) ?_
  show vx_W _ _ 0 [some (.ref 21), none] [] h _
  refine vx_aload_n (n := 0) (q := 1) (by decide +kernel) rfl ?_
  refine vx_getR (b := 22) (idx := 12) (kd := 4) (s := 0) (fin := true) (q := 4) (by decide +kernel) (vx_Tk hT (by decide +kernel)) (vx_Tr hT (kd := 4) (by decide +kernel) (by decide +kernel) (by decide +kernel)) ?_
  refine vx_getR (b := 23) (idx := 63) (kd := 8) (s := 0) (fin := true) (q := 7) (by decide +kernel) (vx_Tk hT (by decide +kernel)) (vx_Tr hT (kd := 8) (by decide +kernel) (by decide +kernel) (by decide +kernel)) ?_
  refine vx_aload_n (n := 0) (q := 8) (by decide +kernel) rfl ?_
  refine vx_getR (b := 32) (idx := 22) (kd := 4) (s := 2) (fin := true) (q := 11) (by decide +kernel) (vx_Tk hT (by decide +kernel)) (vx_Tr hT (kd := 4) (by decide +kernel) (by decide +kernel) (by decide +kernel)) ?_
  refine vx_callI (i := .invokevirtual 201) (how := 3) (cm := 174) (np := 2) (q := 14) (args := [.ref 23, .ref 32]) (rest := []) (by decide +kernel) rfl rfl rfl (vx_w2 (w := 2) (ml := 3) rfl (by decide +kernel)) (vx_rcv (kd := 6) (vx_Tk hT (by decide +kernel)) (by decide +kernel)) H (fun r1 h1 hr1 hs1 H => ?_)
  have hT1 := vx_Tsh hT hs1
  replace H := H hT1
  refine vx_istore_n (n := 1) (q := 15) (lv' := [some (.ref 21), some (.int (vx_i r1))]) (by decide +kernel) rfl ?_
  refine vx_iload_n (n := 1) (q := 16) (by decide +kernel) rfl ?_
  refine vx_iconst (n := (-1)) (q := 17) (by decide +kernel) ?_
  refine vx_icmp_eq (off := 22) (q := 20) (t := 39) (by decide +kernel) hr1 (by decide) (fun c2 => ?_) (fun c2 => ?_)
  · replace H := H.1 c2
    refine vx_aload_n (n := 0) (q := 40) (by decide +kernel) rfl ?_
    refine vx_aload_n (n := 0) (q := 41) (by decide +kernel) rfl ?_
    refine vx_getR (b := 22) (idx := 12) (kd := 4) (s := 0) (fin := true) (q := 44) (by decide +kernel) (vx_Tk hT1 (by decide +kernel)) (vx_Tr hT1 (kd := 4) (by decide +kernel) (by decide +kernel) (by decide +kernel)) ?_
    refine vx_getR (b := 23) (idx := 63) (kd := 8) (s := 0) (fin := true) (q := 47) (by decide +kernel) (vx_Tk hT1 (by decide +kernel)) (vx_Tr hT1 (kd := 8) (by decide +kernel) (by decide +kernel) (by decide +kernel)) ?_
    refine vx_getI (idx := 66) (kd := 6) (s := 4) (fin := false) (q := 50) (by decide +kernel) (vx_Tk hT1 (by decide +kernel)) ?_
    refine vx_sipush (n := 200) (q := 53) (by decide +kernel) ?_
    refine vx_icmp_le (off := 7) (q := 56) (t := 60) (by decide +kernel) (vx_rI_J h1 23 4) (by decide) (fun c3 => ?_) (fun c3 => ?_)
    · replace H := H.1 c3
      refine vx_iconst (n := 0) (q := 61) (by decide +kernel) ?_
      refine vx_putZ (idx := 47) (kd := 4) (s := 12) (fin := false) (q := 64) (by decide +kernel) (vx_Tk hT1 (by decide +kernel)) (Or.inl rfl) (fun h4 e4 => ?_)
      have hT4 := vx_TJ hT1 e4
      replace H := H h4 e4 hT4
      refine vx_retV (q := 65) (by decide +kernel) ?_
      exact H
    · replace H := H.2 c3
      refine vx_iconst (n := 1) (q := 57) (by decide +kernel) ?_
      refine vx_goto (off := 4) (q := 60) (t := 61) (by decide +kernel) ?_
      refine vx_putZ (idx := 47) (kd := 4) (s := 12) (fin := false) (q := 64) (by decide +kernel) (vx_Tk hT1 (by decide +kernel)) (Or.inr rfl) (fun h5 e5 => ?_)
      have hT5 := vx_TJ hT1 e5
      replace H := H h5 e5 hT5
      refine vx_retV (q := 65) (by decide +kernel) ?_
      exact H
  · replace H := H.2 c2
    refine vx_aload_n (n := 0) (q := 21) (by decide +kernel) rfl ?_
    refine vx_getR (b := 22) (idx := 12) (kd := 4) (s := 0) (fin := true) (q := 24) (by decide +kernel) (vx_Tk hT1 (by decide +kernel)) (vx_Tr hT1 (kd := 4) (by decide +kernel) (by decide +kernel) (by decide +kernel)) ?_
    refine vx_iload_n (n := 1) (q := 25) (by decide +kernel) rfl ?_
    refine vx_aload_n (n := 0) (q := 26) (by decide +kernel) rfl ?_
    refine vx_getR (b := 32) (idx := 22) (kd := 4) (s := 2) (fin := true) (q := 29) (by decide +kernel) (vx_Tk hT1 (by decide +kernel)) (vx_Tr hT1 (kd := 4) (by decide +kernel) (by decide +kernel) (by decide +kernel)) ?_
    refine vx_iconst (n := 0) (q := 30) (by decide +kernel) ?_
    refine vx_laload (z := 8) (q := 31) (by decide +kernel) (vx_Tk hT1 (by decide +kernel)) (vx_Tz hT1 (by decide +kernel)) (by decide) ?_
    refine vx_l2i (q := 32) (by decide +kernel) ?_
    refine vx_aload_n (n := 0) (q := 33) (by decide +kernel) rfl ?_
    refine vx_getI (idx := 69) (kd := 4) (s := 10) (fin := false) (q := 36) (by decide +kernel) (vx_Tk hT1 (by decide +kernel)) ?_
    refine vx_callV (i := .invokevirtual 207) (how := 3) (cm := 132) (np := 4) (q := 39) (args := [.ref 22, .int (vx_i r1), .int (vx_i (vx_K h1 32 0)), .int (vx_i (vx_J h1 21 10))]) (rest := []) (by decide +kernel) rfl rfl rfl (vx_w2 (w := 4) (ml := 4) rfl (by decide +kernel)) (vx_rcv (kd := 8) (vx_Tk hT1 (by decide +kernel)) (by decide +kernel)) H (fun h6 hs6 H => ?_)
    have hT6 := vx_Tsh hT1 hs6
    replace H := H hT6
    refine vx_aload_n (n := 0) (q := 40) (by decide +kernel) rfl ?_
    refine vx_aload_n (n := 0) (q := 41) (by decide +kernel) rfl ?_
    refine vx_getR (b := 22) (idx := 12) (kd := 4) (s := 0) (fin := true) (q := 44) (by decide +kernel) (vx_Tk hT6 (by decide +kernel)) (vx_Tr hT6 (kd := 4) (by decide +kernel) (by decide +kernel) (by decide +kernel)) ?_
    refine vx_getR (b := 23) (idx := 63) (kd := 8) (s := 0) (fin := true) (q := 47) (by decide +kernel) (vx_Tk hT6 (by decide +kernel)) (vx_Tr hT6 (kd := 8) (by decide +kernel) (by decide +kernel) (by decide +kernel)) ?_
    refine vx_getI (idx := 66) (kd := 6) (s := 4) (fin := false) (q := 50) (by decide +kernel) (vx_Tk hT6 (by decide +kernel)) ?_
    refine vx_sipush (n := 200) (q := 53) (by decide +kernel) ?_
    refine vx_icmp_le (off := 7) (q := 56) (t := 60) (by decide +kernel) (vx_rI_J h6 23 4) (by decide) (fun c7 => ?_) (fun c7 => ?_)
    · replace H := H.1 c7
      refine vx_iconst (n := 0) (q := 61) (by decide +kernel) ?_
      refine vx_putZ (idx := 47) (kd := 4) (s := 12) (fin := false) (q := 64) (by decide +kernel) (vx_Tk hT6 (by decide +kernel)) (Or.inl rfl) (fun h8 e8 => ?_)
      have hT8 := vx_TJ hT6 e8
      replace H := H h8 e8 hT8
      refine vx_retV (q := 65) (by decide +kernel) ?_
      exact H
    · replace H := H.2 c7
      refine vx_iconst (n := 1) (q := 57) (by decide +kernel) ?_
      refine vx_goto (off := 4) (q := 60) (t := 61) (by decide +kernel) ?_
      refine vx_putZ (idx := 47) (kd := 4) (s := 12) (fin := false) (q := 64) (by decide +kernel) (vx_Tk hT6 (by decide +kernel)) (Or.inr rfl) (fun h9 e9 => ?_)
      have hT9 := vx_TJ hT6 e9
      replace H := H h9 e9 hT9
      refine vx_retV (q := 65) (by decide +kernel) ?_
      exact H
-- RuleHouse$Engine.takeWay()V
theorem vg_114 {d : Nat} {h : ve_H} {P : ve_H → Prop}  (hT : vx_T 1 625 h) (H : (∃ b1, ve_R h 21 7 = some b1 ∧ vx_o 1 625 7 b1 ∧ (0 ≤ ((vx_J h b1 3) + 1) ∧ ((vx_J h b1 3) + 1) < 8) ∧ (0 ≤ ((vx_J h b1 3) + 1) ∧ ((vx_J h b1 3) + 1) < 8) ∧ (∀ h4, h4 = vx_sK h 32 ((vx_J h b1 3) + 1).toNat 0 → vx_T 1 625 h4 → vx_CI d 173 [.ref 34, .ref 32] h4 (fun r5 h5 => vx_T 1 625 h5 → ((r5 ≠ ((-1)) → (0 ≤ r5 ∧ r5 < 201) ∧ vx_CL d 116 [.ref 21, .long (vx_l (vx_K h5 38 r5.toNat)), .long (vx_l (vx_K h 32 ((vx_J h b1 3) + 1).toNat))] h5 (fun r8 h8 => vx_T 1 625 h8 → (0 ≤ r5 ∧ r5 < 201) ∧ (∀ h10, h10 = vx_sK h8 38 r5.toNat r8 → vx_T 1 625 h10 → P h10))) ∧ (r5 = ((-1)) → vx_CI d 174 [.ref 34, .ref 32] h5 (fun r11 h11 => vx_T 1 625 h11 → (((vx_J h11 34 4) ≤ 200 → (∀ h13, h13 = vx_sJ h11 21 12 0 → vx_T 1 625 h13 → ((r11 = ((-1)) → P h13) ∧ (r11 ≠ ((-1)) → vx_CL d 115 [.ref 21, .long (vx_l (vx_K h 32 ((vx_J h b1 3) + 1).toNat))] h13 (fun r15 h15 => vx_T 1 625 h15 → (0 ≤ r11 ∧ r11 < 201) ∧ (∀ h17, h17 = vx_sK h15 38 r11.toNat r15 → vx_T 1 625 h17 → P h17)))))) ∧ (200 < (vx_J h11 34 4) → (∀ h18, h18 = vx_sJ h11 21 12 1 → vx_T 1 625 h18 → ((r11 = ((-1)) → P h18) ∧ (r11 ≠ ((-1)) → vx_CL d 115 [.ref 21, .long (vx_l (vx_K h 32 ((vx_J h b1 3) + 1).toNat))] h18 (fun r20 h20 => vx_T 1 625 h20 → (0 ≤ r11 ∧ r11 < 201) ∧ (∀ h22, h22 = vx_sK h20 38 r11.toNat r20 → vx_T 1 625 h22 → P h22)))))))))))))) : vx_CV (d + 1) 114 [.ref 21] h P := by
  refine vx_enter (ml := 4) (by decide +kernel) ?_
  show vx_W _ _ 0 [some (.ref 21), none, none, none] [] h _
  refine vx_aload_n (n := 0) (q := 1) (by decide +kernel) rfl ?_
  refine vx_getR (b := 32) (idx := 22) (kd := 4) (s := 2) (fin := true) (q := 4) (by decide +kernel) (vx_Tk hT (by decide +kernel)) (vx_Tr hT (kd := 4) (by decide +kernel) (by decide +kernel) (by decide +kernel)) ?_
  refine vx_aload_n (n := 0) (q := 5) (by decide +kernel) rfl ?_
  obtain ⟨b1, eb1, ob1, H⟩ := H
  refine vx_getR (b := b1) (idx := 109) (kd := 4) (s := 7) (fin := false) (q := 8) (by decide +kernel) (vx_Tk hT (by decide +kernel)) eb1 ?_
  refine vx_getI (idx := 211) (kd := 7) (s := 3) (fin := false) (q := 11) (by decide +kernel) (vx_Tk hT ob1) ?_
  refine vx_iconst (n := 1) (q := 12) (by decide +kernel) ?_
  refine vx_iadd (q := 13) (by decide +kernel) ?_
  obtain ⟨k2, H⟩ := H
  refine vx_laload (z := 8) (q := 14) (by decide +kernel) (vx_Tk hT (by decide +kernel)) (vx_Tz hT (by decide +kernel)) (vx_ix k2 (by decide)) ?_
  refine vx_lstore_n (n := 1) (q := 15) (lv' := [some (.ref 21), some (.long (vx_l (vx_K h 32 ((vx_J h b1 3) + 1).toNat))), none, none]) (by decide +kernel) rfl ?_
  refine vx_aload_n (n := 0) (q := 16) (by decide +kernel) rfl ?_
  refine vx_getR (b := 32) (idx := 22) (kd := 4) (s := 2) (fin := true) (q := 19) (by decide +kernel) (vx_Tk hT (by decide +kernel)) (vx_Tr hT (kd := 4) (by decide +kernel) (by decide +kernel) (by decide +kernel)) ?_
  refine vx_aload_n (n := 0) (q := 20) (by decide +kernel) rfl ?_
  refine vx_getR (b := b1) (idx := 109) (kd := 4) (s := 7) (fin := false) (q := 23) (by decide +kernel) (vx_Tk hT (by decide +kernel)) eb1 ?_
  refine vx_getI (idx := 211) (kd := 7) (s := 3) (fin := false) (q := 26) (by decide +kernel) (vx_Tk hT ob1) ?_
  refine vx_iconst (n := 1) (q := 27) (by decide +kernel) ?_
  refine vx_iadd (q := 28) (by decide +kernel) ?_
  refine vx_lconst (n := 0) (m := 0) (q := 29) (by decide +kernel) ?_
  obtain ⟨k3, H⟩ := H
  refine vx_lastore (z := 8) (q := 30) (by decide +kernel) (vx_Tk hT (by decide +kernel)) (vx_Tz hT (by decide +kernel)) (vx_ix k3 (by decide)) (fun h4 e4 => ?_)
  have hT4 := vx_TK hT e4
  replace H := H h4 e4 hT4
  refine vx_aload_n (n := 0) (q := 31) (by decide +kernel) rfl ?_
  refine vx_getR (b := 34) (idx := 33) (kd := 4) (s := 4) (fin := true) (q := 34) (by decide +kernel) (vx_Tk hT4 (by decide +kernel)) (vx_Tr hT4 (kd := 4) (by decide +kernel) (by decide +kernel) (by decide +kernel)) ?_
  refine vx_aload_n (n := 0) (q := 35) (by decide +kernel) rfl ?_
  refine vx_getR (b := 32) (idx := 22) (kd := 4) (s := 2) (fin := true) (q := 38) (by decide +kernel) (vx_Tk hT4 (by decide +kernel)) (vx_Tr hT4 (kd := 4) (by decide +kernel) (by decide +kernel) (by decide +kernel)) ?_
  refine vx_callI (i := .invokevirtual 187) (how := 3) (cm := 173) (np := 2) (q := 41) (args := [.ref 34, .ref 32]) (rest := []) (by decide +kernel) rfl rfl rfl (vx_w2 (w := 2) (ml := 2) rfl (by decide +kernel)) (vx_rcv (kd := 6) (vx_Tk hT4 (by decide +kernel)) (by decide +kernel)) H (fun r5 h5 hr5 hs5 H => ?_)
  have hT5 := vx_Tsh hT4 hs5
  replace H := H hT5
  refine vx_istore_n (n := 3) (q := 42) (lv' := [some (.ref 21), some (.long (vx_l (vx_K h 32 ((vx_J h b1 3) + 1).toNat))), none, some (.int (vx_i r5))]) (by decide +kernel) rfl ?_
  refine vx_iload_n (n := 3) (q := 43) (by decide +kernel) rfl ?_
  refine vx_iconst (n := (-1)) (q := 44) (by decide +kernel) ?_
  refine vx_icmp_ne (off := 54) (q := 47) (t := 98) (by decide +kernel) hr5 (by decide) (fun c6 => ?_) (fun c6 => ?_)
  · replace H := H.1 c6
    refine vx_aload_n (n := 0) (q := 99) (by decide +kernel) rfl ?_
    refine vx_getR (b := 38) (idx := 37) (kd := 4) (s := 5) (fin := true) (q := 102) (by decide +kernel) (vx_Tk hT5 (by decide +kernel)) (vx_Tr hT5 (kd := 4) (by decide +kernel) (by decide +kernel) (by decide +kernel)) ?_
    refine vx_iload_n (n := 3) (q := 103) (by decide +kernel) rfl ?_
    refine vx_aload_n (n := 0) (q := 104) (by decide +kernel) rfl ?_
    refine vx_aload_n (n := 0) (q := 105) (by decide +kernel) rfl ?_
    refine vx_getR (b := 38) (idx := 37) (kd := 4) (s := 5) (fin := true) (q := 108) (by decide +kernel) (vx_Tk hT5 (by decide +kernel)) (vx_Tr hT5 (kd := 4) (by decide +kernel) (by decide +kernel) (by decide +kernel)) ?_
    refine vx_iload_n (n := 3) (q := 109) (by decide +kernel) rfl ?_
    obtain ⟨k7, H⟩ := H
    refine vx_laload (z := 201) (q := 110) (by decide +kernel) (vx_Tk hT5 (by decide +kernel)) (vx_Tz hT5 (by decide +kernel)) (vx_ix k7 (by decide)) ?_
    refine vx_lload_n (n := 1) (q := 111) (by decide +kernel) rfl ?_
    refine vx_callL (i := .invokevirtual 217) (how := 3) (cm := 116) (np := 3) (q := 114) (args := [.ref 21, .long (vx_l (vx_K h5 38 r5.toNat)), .long (vx_l (vx_K h 32 ((vx_J h b1 3) + 1).toNat))]) (rest := [.int (vx_i r5), .ref 38]) (by decide +kernel) rfl rfl rfl (vx_w2 (w := 5) (ml := 5) rfl (by decide +kernel)) (vx_rcv (kd := 4) (vx_Tk hT5 (by decide +kernel)) (by decide +kernel)) H (fun r8 h8 hr8 hs8 H => ?_)
    have hT8 := vx_Tsh hT5 hs8
    replace H := H hT8
    obtain ⟨k9, H⟩ := H
    refine vx_lastore (z := 201) (q := 115) (by decide +kernel) (vx_Tk hT8 (by decide +kernel)) (vx_Tz hT8 (by decide +kernel)) (vx_ix k9 (by decide)) (fun h10 e10 => ?_)
    have hT10 := vx_TK hT8 e10
    replace H := H h10 e10 hT10
    refine vx_retV (q := 116) (by decide +kernel) ?_
    exact H
  · replace H := H.2 c6
    refine vx_aload_n (n := 0) (q := 48) (by decide +kernel) rfl ?_
    refine vx_getR (b := 34) (idx := 33) (kd := 4) (s := 4) (fin := true) (q := 51) (by decide +kernel) (vx_Tk hT5 (by decide +kernel)) (vx_Tr hT5 (kd := 4) (by decide +kernel) (by decide +kernel) (by decide +kernel)) ?_
    refine vx_aload_n (n := 0) (q := 52) (by decide +kernel) rfl ?_
    refine vx_getR (b := 32) (idx := 22) (kd := 4) (s := 2) (fin := true) (q := 55) (by decide +kernel) (vx_Tk hT5 (by decide +kernel)) (vx_Tr hT5 (kd := 4) (by decide +kernel) (by decide +kernel) (by decide +kernel)) ?_
    refine vx_callI (i := .invokevirtual 201) (how := 3) (cm := 174) (np := 2) (q := 58) (args := [.ref 34, .ref 32]) (rest := []) (by decide +kernel) rfl rfl rfl (vx_w2 (w := 2) (ml := 3) rfl (by decide +kernel)) (vx_rcv (kd := 6) (vx_Tk hT5 (by decide +kernel)) (by decide +kernel)) H (fun r11 h11 hr11 hs11 H => ?_)
    have hT11 := vx_Tsh hT5 hs11
    replace H := H hT11
    refine vx_istore_n (n := 3) (q := 59) (lv' := [some (.ref 21), some (.long (vx_l (vx_K h 32 ((vx_J h b1 3) + 1).toNat))), none, some (.int (vx_i r11))]) (by decide +kernel) rfl ?_
    refine vx_aload_n (n := 0) (q := 60) (by decide +kernel) rfl ?_
    refine vx_aload_n (n := 0) (q := 61) (by decide +kernel) rfl ?_
    refine vx_getR (b := 34) (idx := 33) (kd := 4) (s := 4) (fin := true) (q := 64) (by decide +kernel) (vx_Tk hT11 (by decide +kernel)) (vx_Tr hT11 (kd := 4) (by decide +kernel) (by decide +kernel) (by decide +kernel)) ?_
    refine vx_getI (idx := 66) (kd := 6) (s := 4) (fin := false) (q := 67) (by decide +kernel) (vx_Tk hT11 (by decide +kernel)) ?_
    refine vx_sipush (n := 200) (q := 70) (by decide +kernel) ?_
    refine vx_icmp_le (off := 7) (q := 73) (t := 77) (by decide +kernel) (vx_rI_J h11 34 4) (by decide) (fun c12 => ?_) (fun c12 => ?_)
    · replace H := H.1 c12
      refine vx_iconst (n := 0) (q := 78) (by decide +kernel) ?_
      refine vx_putZ (idx := 47) (kd := 4) (s := 12) (fin := false) (q := 81) (by decide +kernel) (vx_Tk hT11 (by decide +kernel)) (Or.inl rfl) (fun h13 e13 => ?_)
      have hT13 := vx_TJ hT11 e13
      replace H := H h13 e13 hT13
      refine vx_iload_n (n := 3) (q := 82) (by decide +kernel) rfl ?_
      refine vx_iconst (n := (-1)) (q := 83) (by decide +kernel) ?_
      refine vx_icmp_eq (off := 14) (q := 86) (t := 97) (by decide +kernel) hr11 (by decide) (fun c14 => ?_) (fun c14 => ?_)
      · replace H := H.1 c14
        refine vx_retV (q := 98) (by decide +kernel) ?_
        exact H
      · replace H := H.2 c14
        refine vx_aload_n (n := 0) (q := 87) (by decide +kernel) rfl ?_
        refine vx_getR (b := 38) (idx := 37) (kd := 4) (s := 5) (fin := true) (q := 90) (by decide +kernel) (vx_Tk hT13 (by decide +kernel)) (vx_Tr hT13 (kd := 4) (by decide +kernel) (by decide +kernel) (by decide +kernel)) ?_
        refine vx_iload_n (n := 3) (q := 91) (by decide +kernel) rfl ?_
        refine vx_aload_n (n := 0) (q := 92) (by decide +kernel) rfl ?_
        refine vx_lload_n (n := 1) (q := 93) (by decide +kernel) rfl ?_
        refine vx_callL (i := .invokevirtual 214) (how := 3) (cm := 115) (np := 2) (q := 96) (args := [.ref 21, .long (vx_l (vx_K h 32 ((vx_J h b1 3) + 1).toNat))]) (rest := [.int (vx_i r11), .ref 38]) (by decide +kernel) rfl rfl rfl (vx_w2 (w := 3) (ml := 3) rfl (by decide +kernel)) (vx_rcv (kd := 4) (vx_Tk hT13 (by decide +kernel)) (by decide +kernel)) H (fun r15 h15 hr15 hs15 H => ?_)
        have hT15 := vx_Tsh hT13 hs15
        replace H := H hT15
        obtain ⟨k16, H⟩ := H
        refine vx_lastore (z := 201) (q := 97) (by decide +kernel) (vx_Tk hT15 (by decide +kernel)) (vx_Tz hT15 (by decide +kernel)) (vx_ix k16 (by decide)) (fun h17 e17 => ?_)
        have hT17 := vx_TK hT15 e17
        replace H := H h17 e17 hT17
        refine vx_retV (q := 98) (by decide +kernel) ?_
        exact H
    · replace H := H.2 c12
      refine vx_iconst (n := 1) (q := 74) (by decide +kernel) ?_
      refine vx_goto (off := 4) (q := 77) (t := 78) (by decide +kernel) ?_
      refine vx_putZ (idx := 47) (kd := 4) (s := 12) (fin := false) (q := 81) (by decide +kernel) (vx_Tk hT11 (by decide +kernel)) (Or.inr rfl) (fun h18 e18 => ?_)
      have hT18 := vx_TJ hT11 e18
      replace H := H h18 e18 hT18
      refine vx_iload_n (n := 3) (q := 82) (by decide +kernel) rfl ?_
      refine vx_iconst (n := (-1)) (q := 83) (by decide +kernel) ?_
      refine vx_icmp_eq (off := 14) (q := 86) (t := 97) (by decide +kernel) hr11 (by decide) (fun c19 => ?_) (fun c19 => ?_)
      · replace H := H.1 c19
        refine vx_retV (q := 98) (by decide +kernel) ?_
        exact H
      · replace H := H.2 c19
        refine vx_aload_n (n := 0) (q := 87) (by decide +kernel) rfl ?_
        refine vx_getR (b := 38) (idx := 37) (kd := 4) (s := 5) (fin := true) (q := 90) (by decide +kernel) (vx_Tk hT18 (by decide +kernel)) (vx_Tr hT18 (kd := 4) (by decide +kernel) (by decide +kernel) (by decide +kernel)) ?_
        refine vx_iload_n (n := 3) (q := 91) (by decide +kernel) rfl ?_
        refine vx_aload_n (n := 0) (q := 92) (by decide +kernel) rfl ?_
        refine vx_lload_n (n := 1) (q := 93) (by decide +kernel) rfl ?_
        refine vx_callL (i := .invokevirtual 214) (how := 3) (cm := 115) (np := 2) (q := 96) (args := [.ref 21, .long (vx_l (vx_K h 32 ((vx_J h b1 3) + 1).toNat))]) (rest := [.int (vx_i r11), .ref 38]) (by decide +kernel) rfl rfl rfl (vx_w2 (w := 3) (ml := 3) rfl (by decide +kernel)) (vx_rcv (kd := 4) (vx_Tk hT18 (by decide +kernel)) (by decide +kernel)) H (fun r20 h20 hr20 hs20 H => ?_)
        have hT20 := vx_Tsh hT18 hs20
        replace H := H hT20
        obtain ⟨k21, H⟩ := H
        refine vx_lastore (z := 201) (q := 97) (by decide +kernel) (vx_Tk hT20 (by decide +kernel)) (vx_Tz hT20 (by decide +kernel)) (vx_ix k21 (by decide)) (fun h22 e22 => ?_)
        have hT22 := vx_TK hT20 e22
        replace H := H h22 e22 hT22
        refine vx_retV (q := 98) (by decide +kernel) ?_
        exact H
-- RuleHouse$Engine.firstAmount(J)J
theorem vg_115 {d : Nat} {h : ve_H} {P : Int → ve_H → Prop} {x1 : Int} (hT : vx_T 1 625 h) (H : (∃ b1, ve_R h 21 7 = some b1 ∧ vx_o 1 625 7 b1 ∧ (((vx_J h b1 2) = 6 → P 1 h) ∧ ((vx_J h b1 2) = 7 → vx_CI d 129 [.long (vx_l x1)] h (fun r3 h3 => vx_T 1 625 h3 → ((r3 = 0 → P 0 h3) ∧ (r3 ≠ 0 → (vx_rL x1) ∧ P x1 h3)))) ∧ ((vx_J h b1 2) ≠ 6 ∧ (vx_J h b1 2) ≠ 7 ∧ True → (vx_rL x1) ∧ P x1 h)))) : vx_CL (d + 1) 115 [.ref 21, .long (vx_l x1)] h P := by
  refine vx_enter (ml := 3) (by decide +kernel) ?_
  show vx_W _ _ 0 [some (.ref 21), some (.long (vx_l x1)), none] [] h _
  refine vx_aload_n (n := 0) (q := 1) (by decide +kernel) rfl ?_
  obtain ⟨b1, eb1, ob1, H⟩ := H
  refine vx_getR (b := b1) (idx := 109) (kd := 4) (s := 7) (fin := false) (q := 4) (by decide +kernel) (vx_Tk hT (by decide +kernel)) eb1 ?_
  refine vx_getI (idx := 112) (kd := 7) (s := 2) (fin := false) (q := 7) (by decide +kernel) (vx_Tk hT ob1) ?_
  refine vx_lsw (dd := 40) (ps := #[(6, 25), (7, 27)]) (tl := [(6, 32), (7, 34)]) (td := 47) (q := 32) (by decide +kernel) (vx_rI_J h b1 2) ⟨fun c2 => ?_, fun c2 => ?_, trivial⟩ (fun c2 => ?_)
  · replace H := H.1 c2
    refine vx_lconst (n := 1) (m := 1) (q := 33) (by decide +kernel) ?_
    refine vx_retL (q := 34) (by decide +kernel) (by decide) ?_
    exact H
  · replace H := H.2.1 c2
    refine vx_lload_n (n := 1) (q := 35) (by decide +kernel) rfl ?_
    refine vx_callI (i := .invokestatic 221) (how := 4) (cm := 129) (np := 1) (q := 38) (args := [.long (vx_l x1)]) (rest := []) (by decide +kernel) rfl rfl rfl (vx_w2 (w := 2) (ml := 2) rfl (by decide +kernel)) rfl H (fun r3 h3 hr3 hs3 H => ?_)
    have hT3 := vx_Tsh hT hs3
    replace H := H hT3
    refine vx_if0_eq (off := 7) (q := 41) (t := 45) (by decide +kernel) hr3 (fun c4 => ?_) (fun c4 => ?_)
    · replace H := H.1 c4
      refine vx_lconst (n := 0) (m := 0) (q := 46) (by decide +kernel) ?_
      refine vx_retL (q := 47) (by decide +kernel) (by decide) ?_
      exact H
    · replace H := H.2 c4
      refine vx_lload_n (n := 1) (q := 42) (by decide +kernel) rfl ?_
      refine vx_goto (off := 4) (q := 45) (t := 46) (by decide +kernel) ?_
      obtain ⟨k5, H⟩ := H
      refine vx_retL (q := 47) (by decide +kernel) k5 ?_
      exact H
  · replace H := H.2.2 c2
    refine vx_lload_n (n := 1) (q := 48) (by decide +kernel) rfl ?_
    obtain ⟨k6, H⟩ := H
    refine vx_retL (q := 49) (by decide +kernel) k6 ?_
    exact H
-- RuleHouse$Engine.nextAmount(JJ)J
theorem vg_116 {d : Nat} {h : ve_H} {P : Int → ve_H → Prop} {x1 : Int} {x2 : Int} (hT : vx_T 1 625 h) (H : (∃ b1, ve_R h 21 7 = some b1 ∧ vx_o 1 625 7 b1 ∧ (((vx_J h b1 2) = 6 → (vx_rI (x1 + 1)) ∧ P (x1 + 1) h) ∧ ((vx_J h b1 2) = 7 → vx_CI d 129 [.long (vx_l x2)] h (fun r4 h4 => vx_T 1 625 h4 → ((r4 = 0 → (vx_rL x1) ∧ P x1 h4) ∧ (r4 ≠ 0 → (vx_rI (x1 + x2)) ∧ P (x1 + x2) h4)))) ∧ ((vx_J h b1 2) = 8 → vx_CL d 221 [.long (vx_l x1), .long (vx_l x2)] h (fun r8 h8 => vx_T 1 625 h8 → P r8 h8)) ∧ ((vx_J h b1 2) ≠ 6 ∧ (vx_J h b1 2) ≠ 7 ∧ (vx_J h b1 2) ≠ 8 ∧ True → vx_CL d 220 [.long (vx_l x1), .long (vx_l x2)] h (fun r9 h9 => vx_T 1 625 h9 → P r9 h9))))) : vx_CL (d + 1) 116 [.ref 21, .long (vx_l x1), .long (vx_l x2)] h P := by
  refine vx_enter (ml := 5) (by decide +kernel) ?_
  show vx_W _ _ 0 [some (.ref 21), some (.long (vx_l x1)), none, some (.long (vx_l x2)), none] [] h _
  refine vx_aload_n (n := 0) (q := 1) (by decide +kernel) rfl ?_
  obtain ⟨b1, eb1, ob1, H⟩ := H
  refine vx_getR (b := b1) (idx := 109) (kd := 4) (s := 7) (fin := false) (q := 4) (by decide +kernel) (vx_Tk hT (by decide +kernel)) eb1 ?_
  refine vx_getI (idx := 112) (kd := 7) (s := 2) (fin := false) (q := 7) (by decide +kernel) (vx_Tk hT ob1) ?_
  refine vx_tsw (dd := 54) (lo := 6) (hi := 8) (offs := #[25, 31, 48]) (tl := [(6, 32), (7, 38), (8, 55)]) (td := 61) (q := 32) (by decide +kernel) (vx_rI_J h b1 2) ⟨fun c2 => ?_, fun c2 => ?_, fun c2 => ?_, trivial⟩ (fun c2 => ?_)
  · replace H := H.1 c2
    refine vx_lload_n (n := 1) (q := 33) (by decide +kernel) rfl ?_
    refine vx_lconst (n := 1) (m := 1) (q := 34) (by decide +kernel) ?_
    refine vx_ladd (q := 35) (by decide +kernel) ?_
    refine vx_l2i (q := 36) (by decide +kernel) ?_
    obtain ⟨k3, H⟩ := H
    refine vx_i2l (q := 37) (by decide +kernel) k3 ?_
    refine vx_retL (q := 38) (by decide +kernel) (vx_IL k3) ?_
    exact H
  · replace H := H.2.1 c2
    refine vx_lload_n (n := 3) (q := 39) (by decide +kernel) rfl ?_
    refine vx_callI (i := .invokestatic 221) (how := 4) (cm := 129) (np := 1) (q := 42) (args := [.long (vx_l x2)]) (rest := []) (by decide +kernel) rfl rfl rfl (vx_w2 (w := 2) (ml := 2) rfl (by decide +kernel)) rfl H (fun r4 h4 hr4 hs4 H => ?_)
    have hT4 := vx_Tsh hT hs4
    replace H := H hT4
    refine vx_if0_eq (off := 11) (q := 45) (t := 53) (by decide +kernel) hr4 (fun c5 => ?_) (fun c5 => ?_)
    · replace H := H.1 c5
      refine vx_lload_n (n := 1) (q := 54) (by decide +kernel) rfl ?_
      obtain ⟨k6, H⟩ := H
      refine vx_retL (q := 55) (by decide +kernel) k6 ?_
      exact H
    · replace H := H.2 c5
      refine vx_lload_n (n := 1) (q := 46) (by decide +kernel) rfl ?_
      refine vx_lload_n (n := 3) (q := 47) (by decide +kernel) rfl ?_
      refine vx_ladd (q := 48) (by decide +kernel) ?_
      refine vx_l2i (q := 49) (by decide +kernel) ?_
      obtain ⟨k7, H⟩ := H
      refine vx_i2l (q := 50) (by decide +kernel) k7 ?_
      refine vx_goto (off := 4) (q := 53) (t := 54) (by decide +kernel) ?_
      refine vx_retL (q := 55) (by decide +kernel) (vx_IL k7) ?_
      exact H
  · replace H := H.2.2.1 c2
    refine vx_lload_n (n := 1) (q := 56) (by decide +kernel) rfl ?_
    refine vx_lload_n (n := 3) (q := 57) (by decide +kernel) rfl ?_
    refine vx_callL (i := .invokestatic 225) (how := 4) (cm := 221) (np := 2) (q := 60) (args := [.long (vx_l x1), .long (vx_l x2)]) (rest := []) (by decide +kernel) rfl rfl rfl (vx_w2 (w := 4) (ml := 4) rfl (by decide +kernel)) rfl H (fun r8 h8 hr8 hs8 H => ?_)
    have hT8 := vx_Tsh hT hs8
    replace H := H hT8
    refine vx_retL (q := 61) (by decide +kernel) hr8 ?_
    exact H
  · replace H := H.2.2.2 c2
    refine vx_lload_n (n := 1) (q := 62) (by decide +kernel) rfl ?_
    refine vx_lload_n (n := 3) (q := 63) (by decide +kernel) rfl ?_
    refine vx_callL (i := .invokestatic 230) (how := 4) (cm := 220) (np := 2) (q := 66) (args := [.long (vx_l x1), .long (vx_l x2)]) (rest := []) (by decide +kernel) rfl rfl rfl (vx_w2 (w := 4) (ml := 4) rfl (by decide +kernel)) rfl H (fun r9 h9 hr9 hs9 H => ?_)
    have hT9 := vx_Tsh hT hs9
    replace H := H hT9
    refine vx_retL (q := 67) (by decide +kernel) hr9 ?_
    exact H
-- RuleHouse$Engine.addTotals()V
theorem vg_117 {d : Nat} {h : ve_H} {P : ve_H → Prop}  (hT : vx_T 1 625 h) (H : vx_W (d + 1) 117 2 [some (.ref 21), some (.int (vx_i 0))] [] h (vx_RV P)) : vx_CV (d + 1) 117 [.ref 21] h P := by
  refine vx_enter (ml := 2) (by decide +kernel) ?_
  show vx_W _ _ 0 [some (.ref 21), none] [] h _
  refine vx_iconst (n := 0) (q := 1) (by decide +kernel) ?_
  refine vx_istore_n (n := 1) (q := 2) (lv' := [some (.ref 21), some (.int (vx_i 0))]) (by decide +kernel) rfl ?_
  exact H
theorem vg_117_2 {d : Nat} {h : ve_H} {P : ve_H → Prop} {v1 : Int} (hT : vx_T 1 625 h) (H : (vx_rI v1) ∧ (((vx_J h 34 4) ≤ v1 → P h) ∧ (v1 < (vx_J h 34 4) → (((vx_J h 21 12) ≠ 0 → P h) ∧ ((vx_J h 21 12) = 0 → ((0 : Int) ≤ 5 ∧ (0 : Int) ≤ (v1 * 5) ∧ (0 : Int) ≤ 0 ∧ ((v1 * 5) : Int) + 5 ≤ (1005 : Nat) ∧ (0 : Int) + 5 ≤ (8 : Nat)) ∧ (∀ h4, h4 = ve_cp h 37 (v1 * 5).toNat 32 0 h 5 → vx_T 1 625 h4 → (∃ b6, ve_R h4 21 7 = some b6 ∧ vx_o 1 625 7 b6 ∧ (0 ≤ v1 ∧ v1 < 201) ∧ (0 ≤ ((vx_J h4 b6 3) + 1) ∧ ((vx_J h4 b6 3) + 1) < 8) ∧ (∀ h9, h9 = vx_sK h4 32 ((vx_J h4 b6 3) + 1).toNat (vx_K h4 38 v1.toNat) → vx_T 1 625 h9 → vx_CV d 113 [.ref 21] h9 (fun h10 => vx_T 1 625 h10 → vx_W (d + 1) 117 2 [some (.ref 21), some (.int (vx_i (v1 + 1)))] [] h10 (vx_RV P)))))))))) : vx_W (d + 1) 117 2 [some (.ref 21), some (.int (vx_i v1))] [] h (vx_RV P) := by
  refine vx_iload_n (n := 1) (q := 3) (by decide +kernel) rfl ?_
  refine vx_aload_n (n := 0) (q := 4) (by decide +kernel) rfl ?_
  refine vx_getR (b := 34) (idx := 33) (kd := 4) (s := 4) (fin := true) (q := 7) (by decide +kernel) (vx_Tk hT (by decide +kernel)) (vx_Tr hT (kd := 4) (by decide +kernel) (by decide +kernel) (by decide +kernel)) ?_
  refine vx_getI (idx := 66) (kd := 6) (s := 4) (fin := false) (q := 10) (by decide +kernel) (vx_Tk hT (by decide +kernel)) ?_
  obtain ⟨k1, H⟩ := H
  refine vx_icmp_ge (off := 59) (q := 13) (t := 69) (by decide +kernel) k1 (vx_rI_J h 34 4) (fun c2 => ?_) (fun c2 => ?_)
  · replace H := H.1 c2
    refine vx_retV (q := 70) (by decide +kernel) ?_
    exact H
  · replace H := H.2 c2
    refine vx_aload_n (n := 0) (q := 14) (by decide +kernel) rfl ?_
    refine vx_getZ (idx := 47) (kd := 4) (s := 12) (fin := false) (q := 17) (by decide +kernel) (vx_Tk hT (by decide +kernel)) ?_
    refine vx_if0_ne (off := 52) (q := 20) (t := 69) (by decide +kernel) (vx_rI_J h 21 12) (fun c3 => ?_) (fun c3 => ?_)
    · replace H := H.1 c3
      refine vx_retV (q := 70) (by decide +kernel) ?_
      exact H
    · replace H := H.2 c3
      refine vx_aload_n (n := 0) (q := 21) (by decide +kernel) rfl ?_
      refine vx_getR (b := 34) (idx := 33) (kd := 4) (s := 4) (fin := true) (q := 24) (by decide +kernel) (vx_Tk hT (by decide +kernel)) (vx_Tr hT (kd := 4) (by decide +kernel) (by decide +kernel) (by decide +kernel)) ?_
      refine vx_getR (b := 37) (idx := 89) (kd := 6) (s := 1) (fin := true) (q := 27) (by decide +kernel) (vx_Tk hT (by decide +kernel)) (vx_Tr hT (kd := 6) (by decide +kernel) (by decide +kernel) (by decide +kernel)) ?_
      refine vx_iload_n (n := 1) (q := 28) (by decide +kernel) rfl ?_
      refine vx_iconst (n := 5) (q := 29) (by decide +kernel) ?_
      refine vx_imul (q := 30) (by decide +kernel) ?_
      refine vx_aload_n (n := 0) (q := 31) (by decide +kernel) rfl ?_
      refine vx_getR (b := 32) (idx := 22) (kd := 4) (s := 2) (fin := true) (q := 34) (by decide +kernel) (vx_Tk hT (by decide +kernel)) (vx_Tr hT (kd := 4) (by decide +kernel) (by decide +kernel) (by decide +kernel)) ?_
      refine vx_iconst (n := 0) (q := 35) (by decide +kernel) ?_
      refine vx_iconst (n := 5) (q := 36) (by decide +kernel) ?_
      obtain ⟨k5, H⟩ := H
      refine vx_acopy (i := .invokestatic 95) (np := 5) (cm := 0) (q := 39) (z1 := 1005) (z2 := 8) (by decide +kernel) (vx_Tk hT (by decide +kernel)) (vx_Tk hT (by decide +kernel)) (vx_Tz hT (by decide +kernel)) (vx_Tz hT (by decide +kernel)) (vx_cx k5 (by decide) (by decide)) rfl (fun h4 e4 => ?_)
      have hT4 := vx_Tcp hT e4
      replace H := H h4 e4 hT4
      refine vx_aload_n (n := 0) (q := 40) (by decide +kernel) rfl ?_
      refine vx_getR (b := 32) (idx := 22) (kd := 4) (s := 2) (fin := true) (q := 43) (by decide +kernel) (vx_Tk hT4 (by decide +kernel)) (vx_Tr hT4 (kd := 4) (by decide +kernel) (by decide +kernel) (by decide +kernel)) ?_
      refine vx_aload_n (n := 0) (q := 44) (by decide +kernel) rfl ?_
      obtain ⟨b6, eb6, ob6, H⟩ := H
      refine vx_getR (b := b6) (idx := 109) (kd := 4) (s := 7) (fin := false) (q := 47) (by decide +kernel) (vx_Tk hT4 (by decide +kernel)) eb6 ?_
      refine vx_getI (idx := 211) (kd := 7) (s := 3) (fin := false) (q := 50) (by decide +kernel) (vx_Tk hT4 ob6) ?_
      refine vx_iconst (n := 1) (q := 51) (by decide +kernel) ?_
      refine vx_iadd (q := 52) (by decide +kernel) ?_
      refine vx_aload_n (n := 0) (q := 53) (by decide +kernel) rfl ?_
      refine vx_getR (b := 38) (idx := 37) (kd := 4) (s := 5) (fin := true) (q := 56) (by decide +kernel) (vx_Tk hT4 (by decide +kernel)) (vx_Tr hT4 (kd := 4) (by decide +kernel) (by decide +kernel) (by decide +kernel)) ?_
      refine vx_iload_n (n := 1) (q := 57) (by decide +kernel) rfl ?_
      obtain ⟨k7, H⟩ := H
      refine vx_laload (z := 201) (q := 58) (by decide +kernel) (vx_Tk hT4 (by decide +kernel)) (vx_Tz hT4 (by decide +kernel)) (vx_ix k7 (by decide)) ?_
      obtain ⟨k8, H⟩ := H
      refine vx_lastore (z := 8) (q := 59) (by decide +kernel) (vx_Tk hT4 (by decide +kernel)) (vx_Tz hT4 (by decide +kernel)) (vx_ix k8 (by decide)) (fun h9 e9 => ?_)
      have hT9 := vx_TK hT4 e9
      replace H := H h9 e9 hT9
      refine vx_aload_n (n := 0) (q := 60) (by decide +kernel) rfl ?_
      refine vx_callV (i := .invokevirtual 101) (how := 3) (cm := 113) (np := 1) (q := 63) (args := [.ref 21]) (rest := []) (by decide +kernel) rfl rfl rfl (vx_w2 (w := 1) (ml := 2) rfl (by decide +kernel)) (vx_rcv (kd := 4) (vx_Tk hT9 (by decide +kernel)) (by decide +kernel)) H (fun h10 hs10 H => ?_)
      have hT10 := vx_Tsh hT9 hs10
      replace H := H hT10
      refine vx_iinc (n := 1) (m := 1) (x := v1) (q := 66) (lv' := [some (.ref 21), some (.int (vx_i (v1 + 1)))]) (by decide +kernel) rfl rfl ?_
      refine vx_goto (off := (-64)) (q := 69) (t := 2) (by decide +kernel) ?_
      exact H
-- RuleHouse$Engine.isInTime(II)Z
theorem vg_118 {d : Nat} {h : ve_H} {P : Int → ve_H → Prop} {x1 : Int} {x2 : Int} (hT : vx_T 1 625 h) (H : (∃ b1, ve_R h 21 6 = some b1 ∧ vx_o 1 625 5 b1 ∧ (∃ b2, ve_R h 21 7 = some b2 ∧ vx_o 1 625 7 b2 ∧ (0 ≤ x2 ∧ x2 < 6) ∧ (0 ≤ (vx_J h (vx_r b2 12) x2.toNat) ∧ (vx_J h (vx_r b2 12) x2.toNat) < 6) ∧ (0 ≤ (vx_J h (vx_r b2 9) (vx_J h (vx_r b2 12) x2.toNat).toNat) ∧ (vx_J h (vx_r b2 9) (vx_J h (vx_r b2 12) x2.toNat).toNat) < 16) ∧ (((vx_J h (vx_r b1 2) (vx_J h (vx_r b2 9) (vx_J h (vx_r b2 12) x2.toNat).toNat).toNat) = (vx_J h 21 9) → (0 ≤ x1 ∧ x1 < 201) ∧ (vx_rI x2) ∧ ((x2 ≠ (vx_J h 21 11) → (((vx_J h 21 11) ≤ x2 → (((vx_J h 21 10) ≤ (vx_J h 27 x1.toNat) → P 0 h) ∧ ((vx_J h 27 x1.toNat) < (vx_J h 21 10) → P 1 h))) ∧ (x2 < (vx_J h 21 11) → (vx_rI ((vx_J h 21 10) - 1)) ∧ ((((vx_J h 21 10) - 1) ≤ (vx_J h 27 x1.toNat) → P 0 h) ∧ ((vx_J h 27 x1.toNat) < ((vx_J h 21 10) - 1) → P 1 h))))) ∧ (x2 = (vx_J h 21 11) → (vx_rI ((vx_J h 21 10) - 1)) ∧ (((vx_J h 27 x1.toNat) ≠ ((vx_J h 21 10) - 1) → P 0 h) ∧ ((vx_J h 27 x1.toNat) = ((vx_J h 21 10) - 1) → P 1 h))))) ∧ ((vx_J h (vx_r b1 2) (vx_J h (vx_r b2 9) (vx_J h (vx_r b2 12) x2.toNat).toNat).toNat) ≠ (vx_J h 21 9) → P 1 h))))) : vx_CI d 118 [.ref 21, .int (vx_i x1), .int (vx_i x2)] h P := by
  refine vx_enter (ml := 4) (by decide +kernel) ?_
  show vx_W _ _ 0 [some (.ref 21), some (.int (vx_i x1)), some (.int (vx_i x2)), none] [] h _
  refine vx_aload_n (n := 0) (q := 1) (by decide +kernel) rfl ?_
  obtain ⟨b1, eb1, ob1, H⟩ := H
  refine vx_getR (b := b1) (idx := 43) (kd := 4) (s := 6) (fin := false) (q := 4) (by decide +kernel) (vx_Tk hT (by decide +kernel)) eb1 ?_
  refine vx_getR (b := vx_r b1 2) (idx := 92) (kd := 5) (s := 2) (fin := true) (q := 7) (by decide +kernel) (vx_Tk hT ob1) (vx_Tr hT (kd := 5) ob1 (by decide +kernel) (vx_f5_2 ob1).1) ?_
  refine vx_aload_n (n := 0) (q := 8) (by decide +kernel) rfl ?_
  obtain ⟨b2, eb2, ob2, H⟩ := H
  refine vx_getR (b := b2) (idx := 109) (kd := 4) (s := 7) (fin := false) (q := 11) (by decide +kernel) (vx_Tk hT (by decide +kernel)) eb2 ?_
  refine vx_getR (b := vx_r b2 9) (idx := 127) (kd := 7) (s := 9) (fin := true) (q := 14) (by decide +kernel) (vx_Tk hT ob2) (vx_Tr hT (kd := 7) ob2 (by decide +kernel) (vx_f7_9 ob2).1) ?_
  refine vx_aload_n (n := 0) (q := 15) (by decide +kernel) rfl ?_
  refine vx_getR (b := b2) (idx := 109) (kd := 4) (s := 7) (fin := false) (q := 18) (by decide +kernel) (vx_Tk hT (by decide +kernel)) eb2 ?_
  refine vx_getR (b := vx_r b2 12) (idx := 121) (kd := 7) (s := 12) (fin := true) (q := 21) (by decide +kernel) (vx_Tk hT ob2) (vx_Tr hT (kd := 7) ob2 (by decide +kernel) (vx_f7_12 ob2).1) ?_
  refine vx_iload_n (n := 2) (q := 22) (by decide +kernel) rfl ?_
  obtain ⟨k3, H⟩ := H
  refine vx_iaload (z := 6) (q := 23) (by decide +kernel) (vx_Tk hT (vx_f7_12 ob2).2.1) (vx_Tz hT ⟨(vx_f7_12 ob2).2.1.1, (vx_f7_12 ob2).2.2⟩) (vx_ix k3 (by decide)) ?_
  obtain ⟨k4, H⟩ := H
  refine vx_iaload (z := 6) (q := 24) (by decide +kernel) (vx_Tk hT (vx_f7_9 ob2).2.1) (vx_Tz hT ⟨(vx_f7_9 ob2).2.1.1, (vx_f7_9 ob2).2.2⟩) (vx_ix k4 (by decide)) ?_
  obtain ⟨k5, H⟩ := H
  refine vx_iaload (z := 16) (q := 25) (by decide +kernel) (vx_Tk hT (vx_f5_2 ob1).2.1) (vx_Tz hT ⟨(vx_f5_2 ob1).2.1.1, (vx_f5_2 ob1).2.2⟩) (vx_ix k5 (by decide)) ?_
  refine vx_aload_n (n := 0) (q := 26) (by decide +kernel) rfl ?_
  refine vx_getI (idx := 57) (kd := 4) (s := 9) (fin := false) (q := 29) (by decide +kernel) (vx_Tk hT (by decide +kernel)) ?_
  refine vx_icmp_eq (off := 5) (q := 32) (t := 34) (by decide +kernel) (vx_rI_J h (vx_r b1 2) (vx_J h (vx_r b2 9) (vx_J h (vx_r b2 12) x2.toNat).toNat).toNat) (vx_rI_J h 21 9) (fun c6 => ?_) (fun c6 => ?_)
  · replace H := H.1 c6
    refine vx_aload_n (n := 0) (q := 35) (by decide +kernel) rfl ?_
    refine vx_getR (b := 22) (idx := 12) (kd := 4) (s := 0) (fin := true) (q := 38) (by decide +kernel) (vx_Tk hT (by decide +kernel)) (vx_Tr hT (kd := 4) (by decide +kernel) (by decide +kernel) (by decide +kernel)) ?_
    refine vx_getR (b := 27) (idx := 233) (kd := 8) (s := 1) (fin := true) (q := 41) (by decide +kernel) (vx_Tk hT (by decide +kernel)) (vx_Tr hT (kd := 8) (by decide +kernel) (by decide +kernel) (by decide +kernel)) ?_
    refine vx_iload_n (n := 1) (q := 42) (by decide +kernel) rfl ?_
    obtain ⟨k7, H⟩ := H
    refine vx_iaload (z := 201) (q := 43) (by decide +kernel) (vx_Tk hT (by decide +kernel)) (vx_Tz hT (by decide +kernel)) (vx_ix k7 (by decide)) ?_
    refine vx_istore_n (n := 3) (q := 44) (lv' := [some (.ref 21), some (.int (vx_i x1)), some (.int (vx_i x2)), some (.int (vx_i (vx_J h 27 x1.toNat)))]) (by decide +kernel) rfl ?_
    refine vx_iload_n (n := 2) (q := 45) (by decide +kernel) rfl ?_
    refine vx_aload_n (n := 0) (q := 46) (by decide +kernel) rfl ?_
    refine vx_getI (idx := 130) (kd := 4) (s := 11) (fin := false) (q := 49) (by decide +kernel) (vx_Tk hT (by decide +kernel)) ?_
    obtain ⟨k8, H⟩ := H
    refine vx_icmp_ne (off := 19) (q := 52) (t := 68) (by decide +kernel) k8 (vx_rI_J h 21 11) (fun c9 => ?_) (fun c9 => ?_)
    · replace H := H.1 c9
      refine vx_iload_n (n := 2) (q := 69) (by decide +kernel) rfl ?_
      refine vx_aload_n (n := 0) (q := 70) (by decide +kernel) rfl ?_
      refine vx_getI (idx := 130) (kd := 4) (s := 11) (fin := false) (q := 73) (by decide +kernel) (vx_Tk hT (by decide +kernel)) ?_
      refine vx_icmp_ge (off := 21) (q := 76) (t := 94) (by decide +kernel) k8 (vx_rI_J h 21 11) (fun c10 => ?_) (fun c10 => ?_)
      · replace H := H.1 c10
        refine vx_iload_n (n := 3) (q := 95) (by decide +kernel) rfl ?_
        refine vx_aload_n (n := 0) (q := 96) (by decide +kernel) rfl ?_
        refine vx_getI (idx := 69) (kd := 4) (s := 10) (fin := false) (q := 99) (by decide +kernel) (vx_Tk hT (by decide +kernel)) ?_
        refine vx_icmp_ge (off := 7) (q := 102) (t := 106) (by decide +kernel) (vx_rI_J h 27 x1.toNat) (vx_rI_J h 21 10) (fun c11 => ?_) (fun c11 => ?_)
        · replace H := H.1 c11
          refine vx_iconst (n := 0) (q := 107) (by decide +kernel) ?_
          refine vx_retZ (q := 108) (by decide +kernel) (Or.inl rfl) ?_
          exact H
        · replace H := H.2 c11
          refine vx_iconst (n := 1) (q := 103) (by decide +kernel) ?_
          refine vx_goto (off := 4) (q := 106) (t := 107) (by decide +kernel) ?_
          refine vx_retZ (q := 108) (by decide +kernel) (Or.inr rfl) ?_
          exact H
      · replace H := H.2 c10
        refine vx_iload_n (n := 3) (q := 77) (by decide +kernel) rfl ?_
        refine vx_aload_n (n := 0) (q := 78) (by decide +kernel) rfl ?_
        refine vx_getI (idx := 69) (kd := 4) (s := 10) (fin := false) (q := 81) (by decide +kernel) (vx_Tk hT (by decide +kernel)) ?_
        refine vx_iconst (n := 1) (q := 82) (by decide +kernel) ?_
        refine vx_isub (q := 83) (by decide +kernel) ?_
        obtain ⟨k12, H⟩ := H
        refine vx_icmp_ge (off := 7) (q := 86) (t := 90) (by decide +kernel) (vx_rI_J h 27 x1.toNat) k12 (fun c13 => ?_) (fun c13 => ?_)
        · replace H := H.1 c13
          refine vx_iconst (n := 0) (q := 91) (by decide +kernel) ?_
          refine vx_goto (off := 16) (q := 94) (t := 107) (by decide +kernel) ?_
          refine vx_retZ (q := 108) (by decide +kernel) (Or.inl rfl) ?_
          exact H
        · replace H := H.2 c13
          refine vx_iconst (n := 1) (q := 87) (by decide +kernel) ?_
          refine vx_goto (off := 20) (q := 90) (t := 107) (by decide +kernel) ?_
          refine vx_retZ (q := 108) (by decide +kernel) (Or.inr rfl) ?_
          exact H
    · replace H := H.2 c9
      refine vx_iload_n (n := 3) (q := 53) (by decide +kernel) rfl ?_
      refine vx_aload_n (n := 0) (q := 54) (by decide +kernel) rfl ?_
      refine vx_getI (idx := 69) (kd := 4) (s := 10) (fin := false) (q := 57) (by decide +kernel) (vx_Tk hT (by decide +kernel)) ?_
      refine vx_iconst (n := 1) (q := 58) (by decide +kernel) ?_
      refine vx_isub (q := 59) (by decide +kernel) ?_
      obtain ⟨k14, H⟩ := H
      refine vx_icmp_ne (off := 7) (q := 62) (t := 66) (by decide +kernel) (vx_rI_J h 27 x1.toNat) k14 (fun c15 => ?_) (fun c15 => ?_)
      · replace H := H.1 c15
        refine vx_iconst (n := 0) (q := 67) (by decide +kernel) ?_
        refine vx_retZ (q := 68) (by decide +kernel) (Or.inl rfl) ?_
        exact H
      · replace H := H.2 c15
        refine vx_iconst (n := 1) (q := 63) (by decide +kernel) ?_
        refine vx_goto (off := 4) (q := 66) (t := 67) (by decide +kernel) ?_
        refine vx_retZ (q := 68) (by decide +kernel) (Or.inr rfl) ?_
        exact H
  · replace H := H.2 c6
    refine vx_iconst (n := 1) (q := 33) (by decide +kernel) ?_
    refine vx_retZ (q := 34) (by decide +kernel) (Or.inr rfl) ?_
    exact H
