/-! Printed by my own program (wip/whole/gen_seg.py): walks of methods 49,65-75 -/
-- RuleHouseModel.lookBound()V
theorem vg_49 {d : Nat} {h : ve_H} {P : ve_H → Prop}  (hT : vx_T 625 672 h) (H : vx_W (d + 1) 49 2 [some (.ref 625), some (.int (vx_i 0)), none, none, none] [] h (vx_RV P)) : vx_CV (d + 1) 49 [.ref 625] h P := by
  refine vx_enter (ml := 5) (by decide +kernel) ?_
  show vx_W _ _ 0 [some (.ref 625), none, none, none, none] [] h _
  refine vx_iconst (n := 0) (q := 1) (by decide +kernel) ?_
  refine vx_istore_n (n := 1) (q := 2) (lv' := [some (.ref 625), some (.int (vx_i 0)), none, none, none]) (by decide +kernel) rfl ?_
  exact H
theorem vg_49_2 {d : Nat} {h : ve_H} {P : ve_H → Prop} {v1 : Int} (hT : vx_T 625 672 h) (H : (vx_rI v1) ∧ ((9 ≤ v1 → (0 ≤ (vx_J h 625 42) ∧ (vx_J h 625 42) < 61) ∧ vx_W (d + 1) 49 43 [some (.ref 625), some (.int (vx_i (6 * (vx_J h 625 42)))), some (.int (vx_i ((6 * (vx_J h 625 42)) + (vx_J h 641 (vx_J h 625 42).toNat)))), some (.int (vx_i (6 * (vx_J h 625 42)))), none] [] h (vx_RV P)) ∧ (v1 < 9 → (0 ≤ v1 ∧ v1 < 9) ∧ (∀ h5, h5 = vx_sJ h 657 v1.toNat 0 → vx_T 625 672 h5 → vx_W (d + 1) 49 2 [some (.ref 625), some (.int (vx_i (v1 + 1))), none, none, none] [] h5 (vx_RV P))))) : vx_W (d + 1) 49 2 [some (.ref 625), some (.int (vx_i v1)), none, none, none] [] h (vx_RV P) := by
  refine vx_iload_n (n := 1) (q := 3) (by decide +kernel) rfl ?_
  refine vx_bipush (n := 9) (q := 5) (by decide +kernel) ?_
  obtain ⟨k1, H⟩ := H
  refine vx_icmp_ge (off := 16) (q := 8) (t := 21) (by decide +kernel) k1 (by decide) (fun c2 => ?_) (fun c2 => ?_)
  · replace H := H.1 c2
    refine vx_bipush (n := 6) (q := 23) (by decide +kernel) ?_
    refine vx_aload_n (n := 0) (q := 24) (by decide +kernel) rfl ?_
    refine vx_getI (idx := 223) (kd := 9) (s := 42) (fin := false) (q := 27) (by decide +kernel) (vx_Tk hT (by decide +kernel)) ?_
    refine vx_imul (q := 28) (by decide +kernel) ?_
    refine vx_istore_n (n := 1) (q := 29) (lv' := [some (.ref 625), some (.int (vx_i (6 * (vx_J h 625 42)))), none, none, none]) (by decide +kernel) rfl ?_
    refine vx_iload_n (n := 1) (q := 30) (by decide +kernel) rfl ?_
    refine vx_aload_n (n := 0) (q := 31) (by decide +kernel) rfl ?_
    refine vx_getR (b := 641) (idx := 56) (kd := 9) (s := 22) (fin := true) (q := 34) (by decide +kernel) (vx_Tk hT (by decide +kernel)) (vx_Tr hT (kd := 9) (by decide +kernel) (by decide +kernel) (by decide +kernel)) ?_
    refine vx_aload_n (n := 0) (q := 35) (by decide +kernel) rfl ?_
    refine vx_getI (idx := 223) (kd := 9) (s := 42) (fin := false) (q := 38) (by decide +kernel) (vx_Tk hT (by decide +kernel)) ?_
    obtain ⟨k3, H⟩ := H
    refine vx_iaload (z := 61) (q := 39) (by decide +kernel) (vx_Tk hT (by decide +kernel)) (vx_Tz hT (by decide +kernel)) (vx_ix k3 (by decide)) ?_
    refine vx_iadd (q := 40) (by decide +kernel) ?_
    refine vx_istore_n (n := 2) (q := 41) (lv' := [some (.ref 625), some (.int (vx_i (6 * (vx_J h 625 42)))), some (.int (vx_i ((6 * (vx_J h 625 42)) + (vx_J h 641 (vx_J h 625 42).toNat)))), none, none]) (by decide +kernel) rfl ?_
    refine vx_iload_n (n := 1) (q := 42) (by decide +kernel) rfl ?_
    refine vx_istore_n (n := 3) (q := 43) (lv' := [some (.ref 625), some (.int (vx_i (6 * (vx_J h 625 42)))), some (.int (vx_i ((6 * (vx_J h 625 42)) + (vx_J h 641 (vx_J h 625 42).toNat)))), some (.int (vx_i (6 * (vx_J h 625 42)))), none]) (by decide +kernel) rfl ?_
    exact H
  · replace H := H.2 c2
    refine vx_aload_n (n := 0) (q := 9) (by decide +kernel) rfl ?_
    refine vx_getR (b := 657) (idx := 108) (kd := 9) (s := 45) (fin := true) (q := 12) (by decide +kernel) (vx_Tk hT (by decide +kernel)) (vx_Tr hT (kd := 9) (by decide +kernel) (by decide +kernel) (by decide +kernel)) ?_
    refine vx_iload_n (n := 1) (q := 13) (by decide +kernel) rfl ?_
    refine vx_iconst (n := 0) (q := 14) (by decide +kernel) ?_
    obtain ⟨k4, H⟩ := H
    refine vx_zastore (z := 9) (q := 15) (by decide +kernel) (vx_Tk hT (by decide +kernel)) (vx_Tz hT (by decide +kernel)) (vx_ix k4 (by decide)) (Or.inl rfl) (fun h5 e5 => ?_)
    have hT5 := vx_TJ hT e5
    replace H := H h5 e5 hT5
    refine vx_iinc (n := 1) (m := 1) (x := v1) (q := 18) (lv' := [some (.ref 625), some (.int (vx_i (v1 + 1))), none, none, none]) (by decide +kernel) rfl rfl ?_
    refine vx_goto (off := (-16)) (q := 21) (t := 2) (by decide +kernel) ?_
    exact H
theorem vg_49_43 {d : Nat} {h : ve_H} {P : ve_H → Prop} {v1 : Int} {v2 : Int} {v3 : Int} {v4 : Option Value} (hT : vx_T 625 672 h) (H : (vx_rI v3) ∧ (vx_rI v2) ∧ ((v2 ≤ v3 → vx_W (d + 1) 49 91 [some (.ref 625), some (.int (vx_i v1)), some (.int (vx_i v2)), some (.int (vx_i 1)), v4] [] h (vx_RV P)) ∧ (v3 < v2 → (0 ≤ v3 ∧ v3 < 366) ∧ (((vx_J h 643 v3.toNat) ≠ 0 → vx_W (d + 1) 49 43 [some (.ref 625), some (.int (vx_i v1)), some (.int (vx_i v2)), some (.int (vx_i (v3 + 1))), v4] [] h (vx_RV P)) ∧ ((vx_J h 643 v3.toNat) = 0 → vx_W (d + 1) 49 60 [some (.ref 625), some (.int (vx_i v1)), some (.int (vx_i v2)), some (.int (vx_i v3)), some (.int (vx_i 0))] [] h (vx_RV P)))))) : vx_W (d + 1) 49 43 [some (.ref 625), some (.int (vx_i v1)), some (.int (vx_i v2)), some (.int (vx_i v3)), v4] [] h (vx_RV P) := by
  refine vx_iload_n (n := 3) (q := 44) (by decide +kernel) rfl ?_
  refine vx_iload_n (n := 2) (q := 45) (by decide +kernel) rfl ?_
  obtain ⟨k1, H⟩ := H
  obtain ⟨k2, H⟩ := H
  refine vx_icmp_ge (off := 44) (q := 48) (t := 89) (by decide +kernel) k1 k2 (fun c3 => ?_) (fun c3 => ?_)
  · replace H := H.1 c3
    refine vx_iconst (n := 1) (q := 90) (by decide +kernel) ?_
    refine vx_istore_n (n := 3) (q := 91) (lv' := [some (.ref 625), some (.int (vx_i v1)), some (.int (vx_i v2)), some (.int (vx_i 1)), v4]) (by decide +kernel) rfl ?_
    exact H
  · replace H := H.2 c3
    refine vx_aload_n (n := 0) (q := 49) (by decide +kernel) rfl ?_
    refine vx_getR (b := 643) (idx := 62) (kd := 9) (s := 24) (fin := true) (q := 52) (by decide +kernel) (vx_Tk hT (by decide +kernel)) (vx_Tr hT (kd := 9) (by decide +kernel) (by decide +kernel) (by decide +kernel)) ?_
    refine vx_iload_n (n := 3) (q := 53) (by decide +kernel) rfl ?_
    obtain ⟨k4, H⟩ := H
    refine vx_iaload (z := 366) (q := 54) (by decide +kernel) (vx_Tk hT (by decide +kernel)) (vx_Tz hT (by decide +kernel)) (vx_ix k4 (by decide)) ?_
    refine vx_if0_ne (off := 29) (q := 57) (t := 83) (by decide +kernel) (vx_rI_J h 643 v3.toNat) (fun c5 => ?_) (fun c5 => ?_)
    · replace H := H.1 c5
      refine vx_iinc (n := 3) (m := 1) (x := v3) (q := 86) (lv' := [some (.ref 625), some (.int (vx_i v1)), some (.int (vx_i v2)), some (.int (vx_i (v3 + 1))), v4]) (by decide +kernel) rfl rfl ?_
      refine vx_goto (off := (-43)) (q := 89) (t := 43) (by decide +kernel) ?_
      exact H
    · replace H := H.2 c5
      refine vx_iconst (n := 0) (q := 58) (by decide +kernel) ?_
      refine vx_istore (n := 4) (q := 60) (lv' := [some (.ref 625), some (.int (vx_i v1)), some (.int (vx_i v2)), some (.int (vx_i v3)), some (.int (vx_i 0))]) (by decide +kernel) rfl ?_
      exact H
theorem vg_49_60 {d : Nat} {h : ve_H} {P : ve_H → Prop} {v1 : Int} {v2 : Int} {v3 : Int} {v4 : Int} (hT : vx_T 625 672 h) (H : vx_CI d 50 [.ref 625, .int (vx_i v3)] h (fun r1 h1 => vx_T 625 672 h1 → (vx_rI v4) ∧ ((r1 ≤ v4 → vx_W (d + 1) 49 43 [some (.ref 625), some (.int (vx_i v1)), some (.int (vx_i v2)), some (.int (vx_i (v3 + 1))), some (.int (vx_i v4))] [] h1 (vx_RV P)) ∧ (v4 < r1 → vx_CV d 48 [.ref 625, .int (vx_i v3), .int (vx_i v4)] h1 (fun h4 => vx_T 625 672 h4 → vx_W (d + 1) 49 60 [some (.ref 625), some (.int (vx_i v1)), some (.int (vx_i v2)), some (.int (vx_i v3)), some (.int (vx_i (v4 + 1)))] [] h4 (vx_RV P)))))) : vx_W (d + 1) 49 60 [some (.ref 625), some (.int (vx_i v1)), some (.int (vx_i v2)), some (.int (vx_i v3)), some (.int (vx_i v4))] [] h (vx_RV P) := by
  refine vx_iload (n := 4) (q := 62) (by decide +kernel) rfl ?_
  refine vx_aload_n (n := 0) (q := 63) (by decide +kernel) rfl ?_
  refine vx_iload_n (n := 3) (q := 64) (by decide +kernel) rfl ?_
  refine vx_callI (i := .invokevirtual 298) (how := 3) (cm := 50) (np := 2) (q := 67) (args := [.ref 625, .int (vx_i v3)]) (rest := [.int (vx_i v4)]) (by decide +kernel) rfl rfl rfl (vx_w2 (w := 2) (ml := 2) rfl (by decide +kernel)) (vx_rcv (kd := 9) (vx_Tk hT (by decide +kernel)) (by decide +kernel)) H (fun r1 h1 hr1 hs1 H => ?_)
  have hT1 := vx_Tsh hT hs1
  replace H := H hT1
  obtain ⟨k2, H⟩ := H
  refine vx_icmp_ge (off := 16) (q := 70) (t := 83) (by decide +kernel) k2 hr1 (fun c3 => ?_) (fun c3 => ?_)
  · replace H := H.1 c3
    refine vx_iinc (n := 3) (m := 1) (x := v3) (q := 86) (lv' := [some (.ref 625), some (.int (vx_i v1)), some (.int (vx_i v2)), some (.int (vx_i (v3 + 1))), some (.int (vx_i v4))]) (by decide +kernel) rfl rfl ?_
    refine vx_goto (off := (-43)) (q := 89) (t := 43) (by decide +kernel) ?_
    exact H
  · replace H := H.2 c3
    refine vx_aload_n (n := 0) (q := 71) (by decide +kernel) rfl ?_
    refine vx_iload_n (n := 3) (q := 72) (by decide +kernel) rfl ?_
    refine vx_iload (n := 4) (q := 74) (by decide +kernel) rfl ?_
    refine vx_callV (i := .invokevirtual 301) (how := 3) (cm := 48) (np := 3) (q := 77) (args := [.ref 625, .int (vx_i v3), .int (vx_i v4)]) (rest := []) (by decide +kernel) rfl rfl rfl (vx_w2 (w := 3) (ml := 3) rfl (by decide +kernel)) (vx_rcv (kd := 9) (vx_Tk hT1 (by decide +kernel)) (by decide +kernel)) H (fun h4 hs4 H => ?_)
    have hT4 := vx_Tsh hT1 hs4
    replace H := H hT4
    refine vx_iinc (n := 4) (m := 1) (x := v4) (q := 80) (lv' := [some (.ref 625), some (.int (vx_i v1)), some (.int (vx_i v2)), some (.int (vx_i v3)), some (.int (vx_i (v4 + 1)))]) (by decide +kernel) rfl rfl ?_
    refine vx_goto (off := (-20)) (q := 83) (t := 60) (by decide +kernel) ?_
    exact H
theorem vg_49_91 {d : Nat} {h : ve_H} {P : ve_H → Prop} {v1 : Int} {v2 : Int} {v3 : Int} {v4 : Option Value} (hT : vx_T 625 672 h) (H : (vx_rI v3) ∧ ((v3 = 0 → vx_W (d + 1) 49 224 [some (.ref 625), some (.int (vx_i v1)), some (.int (vx_i v2)), some (.int (vx_i v3)), some (.int (vx_i 0))] [] h (vx_RV P)) ∧ (v3 ≠ 0 → vx_W (d + 1) 49 100 [some (.ref 625), some (.int (vx_i v1)), some (.int (vx_i v2)), some (.int (vx_i 0)), some (.int (vx_i v1))] [] h (vx_RV P)))) : vx_W (d + 1) 49 91 [some (.ref 625), some (.int (vx_i v1)), some (.int (vx_i v2)), some (.int (vx_i v3)), v4] [] h (vx_RV P) := by
  refine vx_iload_n (n := 3) (q := 92) (by decide +kernel) rfl ?_
  obtain ⟨k1, H⟩ := H
  refine vx_if0_eq (off := 129) (q := 95) (t := 221) (by decide +kernel) k1 (fun c2 => ?_) (fun c2 => ?_)
  · replace H := H.1 c2
    refine vx_iconst (n := 0) (q := 222) (by decide +kernel) ?_
    refine vx_istore (n := 4) (q := 224) (lv' := [some (.ref 625), some (.int (vx_i v1)), some (.int (vx_i v2)), some (.int (vx_i v3)), some (.int (vx_i 0))]) (by decide +kernel) rfl ?_
    exact H
  · replace H := H.2 c2
    refine vx_iconst (n := 0) (q := 96) (by decide +kernel) ?_
    refine vx_istore_n (n := 3) (q := 97) (lv' := [some (.ref 625), some (.int (vx_i v1)), some (.int (vx_i v2)), some (.int (vx_i 0)), v4]) (by decide +kernel) rfl ?_
    refine vx_iload_n (n := 1) (q := 98) (by decide +kernel) rfl ?_
    refine vx_istore (n := 4) (q := 100) (lv' := [some (.ref 625), some (.int (vx_i v1)), some (.int (vx_i v2)), some (.int (vx_i 0)), some (.int (vx_i v1))]) (by decide +kernel) rfl ?_
    exact H
theorem vg_49_100 {d : Nat} {h : ve_H} {P : ve_H → Prop} {v1 : Int} {v2 : Int} {v3 : Int} {v4 : Int} (hT : vx_T 625 672 h) (H : (vx_rI v4) ∧ (vx_rI v2) ∧ ((v2 ≤ v4 → vx_W (d + 1) 49 91 [some (.ref 625), some (.int (vx_i v1)), some (.int (vx_i v2)), some (.int (vx_i v3)), some (.int (vx_i v4))] [] h (vx_RV P)) ∧ (v4 < v2 → (0 ≤ v4 ∧ v4 < 366) ∧ (((vx_J h 643 v4.toNat) ≠ 3 → vx_W (d + 1) 49 156 [some (.ref 625), some (.int (vx_i v1)), some (.int (vx_i v2)), some (.int (vx_i v3)), some (.int (vx_i v4))] [] h (vx_RV P)) ∧ ((vx_J h 643 v4.toNat) = 3 → vx_CI d 47 [.ref 625, .int (vx_i v4), .int (vx_i 0)] h (fun r6 h6 => vx_T 625 672 h6 → ((r6 ≠ 0 → vx_W (d + 1) 49 156 [some (.ref 625), some (.int (vx_i v1)), some (.int (vx_i v2)), some (.int (vx_i v3)), some (.int (vx_i v4))] [] h6 (vx_RV P)) ∧ (r6 = 0 → vx_CI d 47 [.ref 625, .int (vx_i v4), .int (vx_i 1)] h6 (fun r8 h8 => vx_T 625 672 h8 → ((r8 = 0 → vx_W (d + 1) 49 156 [some (.ref 625), some (.int (vx_i v1)), some (.int (vx_i v2)), some (.int (vx_i v3)), some (.int (vx_i v4))] [] h8 (vx_RV P)) ∧ (r8 ≠ 0 → vx_CI d 47 [.ref 625, .int (vx_i v4), .int (vx_i 2)] h8 (fun r10 h10 => vx_T 625 672 h10 → ((r10 = 0 → vx_W (d + 1) 49 156 [some (.ref 625), some (.int (vx_i v1)), some (.int (vx_i v2)), some (.int (vx_i v3)), some (.int (vx_i v4))] [] h10 (vx_RV P)) ∧ (r10 ≠ 0 → vx_CV d 48 [.ref 625, .int (vx_i v4), .int (vx_i 0)] h10 (fun h12 => vx_T 625 672 h12 → vx_W (d + 1) 49 156 [some (.ref 625), some (.int (vx_i v1)), some (.int (vx_i v2)), some (.int (vx_i 1)), some (.int (vx_i v4))] [] h12 (vx_RV P)))))))))))))))) : vx_W (d + 1) 49 100 [some (.ref 625), some (.int (vx_i v1)), some (.int (vx_i v2)), some (.int (vx_i v3)), some (.int (vx_i v4))] [] h (vx_RV P) := by
  refine vx_iload (n := 4) (q := 102) (by decide +kernel) rfl ?_
  refine vx_iload_n (n := 2) (q := 103) (by decide +kernel) rfl ?_
  obtain ⟨k1, H⟩ := H
  obtain ⟨k2, H⟩ := H
  refine vx_icmp_ge (off := 115) (q := 106) (t := 218) (by decide +kernel) k1 k2 (fun c3 => ?_) (fun c3 => ?_)
  · replace H := H.1 c3
    refine vx_goto (off := (-127)) (q := 221) (t := 91) (by decide +kernel) ?_
    exact H
  · replace H := H.2 c3
    refine vx_aload_n (n := 0) (q := 107) (by decide +kernel) rfl ?_
    refine vx_getR (b := 643) (idx := 62) (kd := 9) (s := 24) (fin := true) (q := 110) (by decide +kernel) (vx_Tk hT (by decide +kernel)) (vx_Tr hT (kd := 9) (by decide +kernel) (by decide +kernel) (by decide +kernel)) ?_
    refine vx_iload (n := 4) (q := 112) (by decide +kernel) rfl ?_
    obtain ⟨k4, H⟩ := H
    refine vx_iaload (z := 366) (q := 113) (by decide +kernel) (vx_Tk hT (by decide +kernel)) (vx_Tz hT (by decide +kernel)) (vx_ix k4 (by decide)) ?_
    refine vx_iconst (n := 3) (q := 114) (by decide +kernel) ?_
    refine vx_icmp_ne (off := 42) (q := 117) (t := 156) (by decide +kernel) (vx_rI_J h 643 v4.toNat) (by decide) (fun c5 => ?_) (fun c5 => ?_)
    · replace H := H.1 c5
      exact H
    · replace H := H.2 c5
      refine vx_aload_n (n := 0) (q := 118) (by decide +kernel) rfl ?_
      refine vx_iload (n := 4) (q := 120) (by decide +kernel) rfl ?_
      refine vx_iconst (n := 0) (q := 121) (by decide +kernel) ?_
      refine vx_callI (i := .invokevirtual 304) (how := 3) (cm := 47) (np := 3) (q := 124) (args := [.ref 625, .int (vx_i v4), .int (vx_i 0)]) (rest := []) (by decide +kernel) rfl rfl rfl (vx_w2 (w := 3) (ml := 3) rfl (by decide +kernel)) (vx_rcv (kd := 9) (vx_Tk hT (by decide +kernel)) (by decide +kernel)) H (fun r6 h6 hr6 hs6 H => ?_)
      have hT6 := vx_Tsh hT hs6
      replace H := H hT6
      refine vx_if0_ne (off := 32) (q := 127) (t := 156) (by decide +kernel) hr6 (fun c7 => ?_) (fun c7 => ?_)
      · replace H := H.1 c7
        exact H
      · replace H := H.2 c7
        refine vx_aload_n (n := 0) (q := 128) (by decide +kernel) rfl ?_
        refine vx_iload (n := 4) (q := 130) (by decide +kernel) rfl ?_
        refine vx_iconst (n := 1) (q := 131) (by decide +kernel) ?_
        refine vx_callI (i := .invokevirtual 304) (how := 3) (cm := 47) (np := 3) (q := 134) (args := [.ref 625, .int (vx_i v4), .int (vx_i 1)]) (rest := []) (by decide +kernel) rfl rfl rfl (vx_w2 (w := 3) (ml := 3) rfl (by decide +kernel)) (vx_rcv (kd := 9) (vx_Tk hT6 (by decide +kernel)) (by decide +kernel)) H (fun r8 h8 hr8 hs8 H => ?_)
        have hT8 := vx_Tsh hT6 hs8
        replace H := H hT8
        refine vx_if0_eq (off := 22) (q := 137) (t := 156) (by decide +kernel) hr8 (fun c9 => ?_) (fun c9 => ?_)
        · replace H := H.1 c9
          exact H
        · replace H := H.2 c9
          refine vx_aload_n (n := 0) (q := 138) (by decide +kernel) rfl ?_
          refine vx_iload (n := 4) (q := 140) (by decide +kernel) rfl ?_
          refine vx_iconst (n := 2) (q := 141) (by decide +kernel) ?_
          refine vx_callI (i := .invokevirtual 304) (how := 3) (cm := 47) (np := 3) (q := 144) (args := [.ref 625, .int (vx_i v4), .int (vx_i 2)]) (rest := []) (by decide +kernel) rfl rfl rfl (vx_w2 (w := 3) (ml := 3) rfl (by decide +kernel)) (vx_rcv (kd := 9) (vx_Tk hT8 (by decide +kernel)) (by decide +kernel)) H (fun r10 h10 hr10 hs10 H => ?_)
          have hT10 := vx_Tsh hT8 hs10
          replace H := H hT10
          refine vx_if0_eq (off := 12) (q := 147) (t := 156) (by decide +kernel) hr10 (fun c11 => ?_) (fun c11 => ?_)
          · replace H := H.1 c11
            exact H
          · replace H := H.2 c11
            refine vx_aload_n (n := 0) (q := 148) (by decide +kernel) rfl ?_
            refine vx_iload (n := 4) (q := 150) (by decide +kernel) rfl ?_
            refine vx_iconst (n := 0) (q := 151) (by decide +kernel) ?_
            refine vx_callV (i := .invokevirtual 301) (how := 3) (cm := 48) (np := 3) (q := 154) (args := [.ref 625, .int (vx_i v4), .int (vx_i 0)]) (rest := []) (by decide +kernel) rfl rfl rfl (vx_w2 (w := 3) (ml := 3) rfl (by decide +kernel)) (vx_rcv (kd := 9) (vx_Tk hT10 (by decide +kernel)) (by decide +kernel)) H (fun h12 hs12 H => ?_)
            have hT12 := vx_Tsh hT10 hs12
            replace H := H hT12
            refine vx_iconst (n := 1) (q := 155) (by decide +kernel) ?_
            refine vx_istore_n (n := 3) (q := 156) (lv' := [some (.ref 625), some (.int (vx_i v1)), some (.int (vx_i v2)), some (.int (vx_i 1)), some (.int (vx_i v4))]) (by decide +kernel) rfl ?_
            exact H
theorem vg_49_156 {d : Nat} {h : ve_H} {P : ve_H → Prop} {v1 : Int} {v2 : Int} {v3 : Int} {v4 : Int} (hT : vx_T 625 672 h) (H : (0 ≤ v4 ∧ v4 < 366) ∧ (((vx_J h 643 v4.toNat) ≠ 2 → vx_W (d + 1) 49 212 [some (.ref 625), some (.int (vx_i v1)), some (.int (vx_i v2)), some (.int (vx_i v3)), some (.int (vx_i v4))] [] h (vx_RV P)) ∧ ((vx_J h 643 v4.toNat) = 2 → (0 ≤ v4 ∧ v4 < 366) ∧ (((vx_J h 644 v4.toNat) ≠ 61 → vx_W (d + 1) 49 212 [some (.ref 625), some (.int (vx_i v1)), some (.int (vx_i v2)), some (.int (vx_i v3)), some (.int (vx_i v4))] [] h (vx_RV P)) ∧ ((vx_J h 644 v4.toNat) = 61 → vx_CI d 47 [.ref 625, .int (vx_i v4), .int (vx_i 0)] h (fun r5 h5 => vx_T 625 672 h5 → vx_CI d 47 [.ref 625, .int (vx_i v4), .int (vx_i 1)] h5 (fun r6 h6 => vx_T 625 672 h6 → ((r5 = r6 → vx_W (d + 1) 49 212 [some (.ref 625), some (.int (vx_i v1)), some (.int (vx_i v2)), some (.int (vx_i v3)), some (.int (vx_i v4))] [] h6 (vx_RV P)) ∧ (r5 ≠ r6 → vx_CV d 48 [.ref 625, .int (vx_i v4), .int (vx_i 0)] h6 (fun h8 => vx_T 625 672 h8 → vx_CV d 48 [.ref 625, .int (vx_i v4), .int (vx_i 1)] h8 (fun h9 => vx_T 625 672 h9 → vx_W (d + 1) 49 212 [some (.ref 625), some (.int (vx_i v1)), some (.int (vx_i v2)), some (.int (vx_i 1)), some (.int (vx_i v4))] [] h9 (vx_RV P)))))))))))) : vx_W (d + 1) 49 156 [some (.ref 625), some (.int (vx_i v1)), some (.int (vx_i v2)), some (.int (vx_i v3)), some (.int (vx_i v4))] [] h (vx_RV P) := by
  refine vx_aload_n (n := 0) (q := 157) (by decide +kernel) rfl ?_
  refine vx_getR (b := 643) (idx := 62) (kd := 9) (s := 24) (fin := true) (q := 160) (by decide +kernel) (vx_Tk hT (by decide +kernel)) (vx_Tr hT (kd := 9) (by decide +kernel) (by decide +kernel) (by decide +kernel)) ?_
  refine vx_iload (n := 4) (q := 162) (by decide +kernel) rfl ?_
  obtain ⟨k1, H⟩ := H
  refine vx_iaload (z := 366) (q := 163) (by decide +kernel) (vx_Tk hT (by decide +kernel)) (vx_Tz hT (by decide +kernel)) (vx_ix k1 (by decide)) ?_
  refine vx_iconst (n := 2) (q := 164) (by decide +kernel) ?_
  refine vx_icmp_ne (off := 48) (q := 167) (t := 212) (by decide +kernel) (vx_rI_J h 643 v4.toNat) (by decide) (fun c2 => ?_) (fun c2 => ?_)
  · replace H := H.1 c2
    exact H
  · replace H := H.2 c2
    refine vx_aload_n (n := 0) (q := 168) (by decide +kernel) rfl ?_
    refine vx_getR (b := 644) (idx := 65) (kd := 9) (s := 25) (fin := true) (q := 171) (by decide +kernel) (vx_Tk hT (by decide +kernel)) (vx_Tr hT (kd := 9) (by decide +kernel) (by decide +kernel) (by decide +kernel)) ?_
    refine vx_iload (n := 4) (q := 173) (by decide +kernel) rfl ?_
    obtain ⟨k3, H⟩ := H
    refine vx_iaload (z := 366) (q := 174) (by decide +kernel) (vx_Tk hT (by decide +kernel)) (vx_Tz hT (by decide +kernel)) (vx_ix k3 (by decide)) ?_
    refine vx_bipush (n := 61) (q := 176) (by decide +kernel) ?_
    refine vx_icmp_ne (off := 36) (q := 179) (t := 212) (by decide +kernel) (vx_rI_J h 644 v4.toNat) (by decide) (fun c4 => ?_) (fun c4 => ?_)
    · replace H := H.1 c4
      exact H
    · replace H := H.2 c4
      refine vx_aload_n (n := 0) (q := 180) (by decide +kernel) rfl ?_
      refine vx_iload (n := 4) (q := 182) (by decide +kernel) rfl ?_
      refine vx_iconst (n := 0) (q := 183) (by decide +kernel) ?_
      refine vx_callI (i := .invokevirtual 304) (how := 3) (cm := 47) (np := 3) (q := 186) (args := [.ref 625, .int (vx_i v4), .int (vx_i 0)]) (rest := []) (by decide +kernel) rfl rfl rfl (vx_w2 (w := 3) (ml := 3) rfl (by decide +kernel)) (vx_rcv (kd := 9) (vx_Tk hT (by decide +kernel)) (by decide +kernel)) H (fun r5 h5 hr5 hs5 H => ?_)
      have hT5 := vx_Tsh hT hs5
      replace H := H hT5
      refine vx_aload_n (n := 0) (q := 187) (by decide +kernel) rfl ?_
      refine vx_iload (n := 4) (q := 189) (by decide +kernel) rfl ?_
      refine vx_iconst (n := 1) (q := 190) (by decide +kernel) ?_
      refine vx_callI (i := .invokevirtual 304) (how := 3) (cm := 47) (np := 3) (q := 193) (args := [.ref 625, .int (vx_i v4), .int (vx_i 1)]) (rest := [.int (vx_i r5)]) (by decide +kernel) rfl rfl rfl (vx_w2 (w := 3) (ml := 3) rfl (by decide +kernel)) (vx_rcv (kd := 9) (vx_Tk hT5 (by decide +kernel)) (by decide +kernel)) H (fun r6 h6 hr6 hs6 H => ?_)
      have hT6 := vx_Tsh hT5 hs6
      replace H := H hT6
      refine vx_icmp_eq (off := 19) (q := 196) (t := 212) (by decide +kernel) hr5 hr6 (fun c7 => ?_) (fun c7 => ?_)
      · replace H := H.1 c7
        exact H
      · replace H := H.2 c7
        refine vx_aload_n (n := 0) (q := 197) (by decide +kernel) rfl ?_
        refine vx_iload (n := 4) (q := 199) (by decide +kernel) rfl ?_
        refine vx_iconst (n := 0) (q := 200) (by decide +kernel) ?_
        refine vx_callV (i := .invokevirtual 301) (how := 3) (cm := 48) (np := 3) (q := 203) (args := [.ref 625, .int (vx_i v4), .int (vx_i 0)]) (rest := []) (by decide +kernel) rfl rfl rfl (vx_w2 (w := 3) (ml := 3) rfl (by decide +kernel)) (vx_rcv (kd := 9) (vx_Tk hT6 (by decide +kernel)) (by decide +kernel)) H (fun h8 hs8 H => ?_)
        have hT8 := vx_Tsh hT6 hs8
        replace H := H hT8
        refine vx_aload_n (n := 0) (q := 204) (by decide +kernel) rfl ?_
        refine vx_iload (n := 4) (q := 206) (by decide +kernel) rfl ?_
        refine vx_iconst (n := 1) (q := 207) (by decide +kernel) ?_
        refine vx_callV (i := .invokevirtual 301) (how := 3) (cm := 48) (np := 3) (q := 210) (args := [.ref 625, .int (vx_i v4), .int (vx_i 1)]) (rest := []) (by decide +kernel) rfl rfl rfl (vx_w2 (w := 3) (ml := 3) rfl (by decide +kernel)) (vx_rcv (kd := 9) (vx_Tk hT8 (by decide +kernel)) (by decide +kernel)) H (fun h9 hs9 H => ?_)
        have hT9 := vx_Tsh hT8 hs9
        replace H := H hT9
        refine vx_iconst (n := 1) (q := 211) (by decide +kernel) ?_
        refine vx_istore_n (n := 3) (q := 212) (lv' := [some (.ref 625), some (.int (vx_i v1)), some (.int (vx_i v2)), some (.int (vx_i 1)), some (.int (vx_i v4))]) (by decide +kernel) rfl ?_
        exact H
theorem vg_49_212 {d : Nat} {h : ve_H} {P : ve_H → Prop} {v1 : Int} {v2 : Int} {v3 : Int} {v4 : Int} (hT : vx_T 625 672 h) (H : vx_W (d + 1) 49 100 [some (.ref 625), some (.int (vx_i v1)), some (.int (vx_i v2)), some (.int (vx_i v3)), some (.int (vx_i (v4 + 1)))] [] h (vx_RV P)) : vx_W (d + 1) 49 212 [some (.ref 625), some (.int (vx_i v1)), some (.int (vx_i v2)), some (.int (vx_i v3)), some (.int (vx_i v4))] [] h (vx_RV P) := by
  refine vx_iinc (n := 4) (m := 1) (x := v4) (q := 215) (lv' := [some (.ref 625), some (.int (vx_i v1)), some (.int (vx_i v2)), some (.int (vx_i v3)), some (.int (vx_i (v4 + 1)))]) (by decide +kernel) rfl rfl ?_
  refine vx_goto (off := (-115)) (q := 218) (t := 100) (by decide +kernel) ?_
  exact H
theorem vg_49_224 {d : Nat} {h : ve_H} {P : ve_H → Prop} {v1 : Int} {v2 : Int} {v3 : Int} {v4 : Int} (hT : vx_T 625 672 h) (H : (0 ≤ (vx_J h 625 42) ∧ (vx_J h 625 42) < 61) ∧ (vx_rI v4) ∧ (((vx_J h 642 (vx_J h 625 42).toNat) ≤ v4 → P h) ∧ (v4 < (vx_J h 642 (vx_J h 625 42).toNat) → (0 ≤ v4 ∧ v4 < 9) ∧ (((vx_J h 657 v4.toNat) ≠ 0 → vx_W (d + 1) 49 224 [some (.ref 625), some (.int (vx_i v1)), some (.int (vx_i v2)), some (.int (vx_i v3)), some (.int (vx_i (v4 + 1)))] [] h (vx_RV P)) ∧ ((vx_J h 657 v4.toNat) = 0 → (0 ≤ v4 ∧ v4 < 9) ∧ vx_CV d 37 [.ref 625, .int (vx_i 3), .int (vx_i (vx_J h 656 v4.toNat))] h (fun h7 => vx_T 625 672 h7 → vx_W (d + 1) 49 224 [some (.ref 625), some (.int (vx_i v1)), some (.int (vx_i v2)), some (.int (vx_i v3)), some (.int (vx_i (v4 + 1)))] [] h7 (vx_RV P))))))) : vx_W (d + 1) 49 224 [some (.ref 625), some (.int (vx_i v1)), some (.int (vx_i v2)), some (.int (vx_i v3)), some (.int (vx_i v4))] [] h (vx_RV P) := by
  refine vx_iload (n := 4) (q := 226) (by decide +kernel) rfl ?_
  refine vx_aload_n (n := 0) (q := 227) (by decide +kernel) rfl ?_
  refine vx_getR (b := 642) (idx := 59) (kd := 9) (s := 23) (fin := true) (q := 230) (by decide +kernel) (vx_Tk hT (by decide +kernel)) (vx_Tr hT (kd := 9) (by decide +kernel) (by decide +kernel) (by decide +kernel)) ?_
  refine vx_aload_n (n := 0) (q := 231) (by decide +kernel) rfl ?_
  refine vx_getI (idx := 223) (kd := 9) (s := 42) (fin := false) (q := 234) (by decide +kernel) (vx_Tk hT (by decide +kernel)) ?_
  obtain ⟨k1, H⟩ := H
  refine vx_iaload (z := 61) (q := 235) (by decide +kernel) (vx_Tk hT (by decide +kernel)) (vx_Tz hT (by decide +kernel)) (vx_ix k1 (by decide)) ?_
  obtain ⟨k2, H⟩ := H
  refine vx_icmp_ge (off := 31) (q := 238) (t := 266) (by decide +kernel) k2 (vx_rI_J h 642 (vx_J h 625 42).toNat) (fun c3 => ?_) (fun c3 => ?_)
  · replace H := H.1 c3
    refine vx_retV (q := 267) (by decide +kernel) ?_
    exact H
  · replace H := H.2 c3
    refine vx_aload_n (n := 0) (q := 239) (by decide +kernel) rfl ?_
    refine vx_getR (b := 657) (idx := 108) (kd := 9) (s := 45) (fin := true) (q := 242) (by decide +kernel) (vx_Tk hT (by decide +kernel)) (vx_Tr hT (kd := 9) (by decide +kernel) (by decide +kernel) (by decide +kernel)) ?_
    refine vx_iload (n := 4) (q := 244) (by decide +kernel) rfl ?_
    obtain ⟨k4, H⟩ := H
    refine vx_zaload (z := 9) (q := 245) (by decide +kernel) (vx_Tk hT (by decide +kernel)) (vx_Tz hT (by decide +kernel)) (vx_ix k4 (by decide)) ?_
    refine vx_if0_ne (off := 15) (q := 248) (t := 260) (by decide +kernel) (vx_rI_J h 657 v4.toNat) (fun c5 => ?_) (fun c5 => ?_)
    · replace H := H.1 c5
      refine vx_iinc (n := 4) (m := 1) (x := v4) (q := 263) (lv' := [some (.ref 625), some (.int (vx_i v1)), some (.int (vx_i v2)), some (.int (vx_i v3)), some (.int (vx_i (v4 + 1)))]) (by decide +kernel) rfl rfl ?_
      refine vx_goto (off := (-39)) (q := 266) (t := 224) (by decide +kernel) ?_
      exact H
    · replace H := H.2 c5
      refine vx_aload_n (n := 0) (q := 249) (by decide +kernel) rfl ?_
      refine vx_iconst (n := 3) (q := 250) (by decide +kernel) ?_
      refine vx_aload_n (n := 0) (q := 251) (by decide +kernel) rfl ?_
      refine vx_getR (b := 656) (idx := 105) (kd := 9) (s := 44) (fin := true) (q := 254) (by decide +kernel) (vx_Tk hT (by decide +kernel)) (vx_Tr hT (kd := 9) (by decide +kernel) (by decide +kernel) (by decide +kernel)) ?_
      refine vx_iload (n := 4) (q := 256) (by decide +kernel) rfl ?_
      obtain ⟨k6, H⟩ := H
      refine vx_iaload (z := 9) (q := 257) (by decide +kernel) (vx_Tk hT (by decide +kernel)) (vx_Tz hT (by decide +kernel)) (vx_ix k6 (by decide)) ?_
      refine vx_callV (i := .invokevirtual 241) (how := 3) (cm := 37) (np := 3) (q := 260) (args := [.ref 625, .int (vx_i 3), .int (vx_i (vx_J h 656 v4.toNat))]) (rest := []) (by decide +kernel) rfl rfl rfl (vx_w2 (w := 3) (ml := 3) rfl (by decide +kernel)) (vx_rcv (kd := 9) (vx_Tk hT (by decide +kernel)) (by decide +kernel)) H (fun h7 hs7 H => ?_)
      have hT7 := vx_Tsh hT hs7
      replace H := H hT7
      refine vx_iinc (n := 4) (m := 1) (x := v4) (q := 263) (lv' := [some (.ref 625), some (.int (vx_i v1)), some (.int (vx_i v2)), some (.int (vx_i v3)), some (.int (vx_i (v4 + 1)))]) (by decide +kernel) rfl rfl ?_
      refine vx_goto (off := (-39)) (q := 266) (t := 224) (by decide +kernel) ?_
      exact H
-- RuleHouseModel.spelt(J)J
theorem vg_65 {d : Nat} {h : ve_H} {P : Int → ve_H → Prop} {x1 : Int} (hT : vx_T 625 672 h) (H : vx_W d 65 6 [some (.long (vx_l x1)), none, some (.long (vx_l (vx_land x1 72057594037927935))), none] [] h (vx_RL P)) : vx_CL d 65 [.long (vx_l x1)] h P := by
  refine vx_enter (ml := 4) (by decide +kernel) ?_
  show vx_W _ _ 0 [some (.long (vx_l x1)), none, none, none] [] h _
  refine vx_lload_n (n := 0) (q := 1) (by decide +kernel) rfl ?_
  refine vx_ldc (idx := 360) (v := 72057594037927935) (m := 72057594037927935) (q := 4) (by decide +kernel) ?_
  refine vx_land1 (q := 5) (by decide +kernel) ?_
  refine vx_lstore_n (n := 2) (q := 6) (lv' := [some (.long (vx_l x1)), none, some (.long (vx_l (vx_land x1 72057594037927935))), none]) (by decide +kernel) rfl ?_
  exact H
theorem vg_65_6 {d : Nat} {h : ve_H} {P : Int → ve_H → Prop} {v0 : Int} {v2 : Int} (hT : vx_T 625 672 h) (H : (vx_rL v2) ∧ ((1099511627776 ≤ v2 → P v2 h) ∧ (v2 < 1099511627776 → vx_W d 65 6 [some (.long (vx_l v0)), none, some (.long (vx_l (vx_lshl v2 8))), none] [] h (vx_RL P)))) : vx_W d 65 6 [some (.long (vx_l v0)), none, some (.long (vx_l v2)), none] [] h (vx_RL P) := by
  refine vx_lload_n (n := 2) (q := 7) (by decide +kernel) rfl ?_
  refine vx_ldc (idx := 362) (v := 1099511627776) (m := 1099511627776) (q := 10) (by decide +kernel) ?_
  obtain ⟨k1, H⟩ := H
  refine vx_lc_ge (off := 11) (p := 11) (q := 14) (t := 22) (by decide +kernel) k1 (by decide) (fun c2 => ?_) (fun c2 => ?_)
  · replace H := H.1 c2
    refine vx_lload_n (n := 2) (q := 23) (by decide +kernel) rfl ?_
    refine vx_retL (q := 24) (by decide +kernel) k1 ?_
    exact H
  · replace H := H.2 c2
    refine vx_lload_n (n := 2) (q := 15) (by decide +kernel) rfl ?_
    refine vx_bipush (n := 8) (q := 17) (by decide +kernel) ?_
    refine vx_lshl1 (q := 18) (by decide +kernel) ?_
    refine vx_lstore_n (n := 2) (q := 19) (lv' := [some (.long (vx_l v0)), none, some (.long (vx_l (vx_lshl v2 8))), none]) (by decide +kernel) rfl ?_
    refine vx_goto (off := (-13)) (q := 22) (t := 6) (by decide +kernel) ?_
    exact H
-- RuleHouseModel.isSymbol(J)Z
theorem vg_66 {d : Nat} {h : ve_H} {P : Int → ve_H → Prop} {x1 : Int} (hT : vx_T 625 672 h) (H : (vx_rL x1) ∧ ((x1 < 72057594037927936 → P 0 h) ∧ (72057594037927936 ≤ x1 → P 1 h))) : vx_CI d 66 [.long (vx_l x1)] h P := by
  refine vx_enter (ml := 2) (by decide +kernel) ?_
  show vx_W _ _ 0 [some (.long (vx_l x1)), none] [] h _
  refine vx_lload_n (n := 0) (q := 1) (by decide +kernel) rfl ?_
  refine vx_ldc (idx := 236) (v := 72057594037927936) (m := 72057594037927936) (q := 4) (by decide +kernel) ?_
  obtain ⟨k1, H⟩ := H
  refine vx_lc_lt (off := 7) (p := 5) (q := 8) (t := 12) (by decide +kernel) k1 (by decide) (fun c2 => ?_) (fun c2 => ?_)
  · replace H := H.1 c2
    refine vx_iconst (n := 0) (q := 13) (by decide +kernel) ?_
    refine vx_retZ (q := 14) (by decide +kernel) (Or.inl rfl) ?_
    exact H
  · replace H := H.2 c2
    refine vx_iconst (n := 1) (q := 9) (by decide +kernel) ?_
    refine vx_goto (off := 4) (q := 12) (t := 13) (by decide +kernel) ?_
    refine vx_retZ (q := 14) (by decide +kernel) (Or.inr rfl) ?_
    exact H
-- RuleHouseModel.order(JJ)I
theorem vg_67 {d : Nat} {h : ve_H} {P : Int → ve_H → Prop} {x1 : Int} {x2 : Int} (hT : vx_T 625 672 h) (H : vx_CI d 66 [.long (vx_l x1)] h (fun r1 h1 => vx_T 625 672 h1 → vx_CI d 66 [.long (vx_l x2)] h1 (fun r2 h2 => vx_T 625 672 h2 → ((r1 = r2 → vx_CI d 66 [.long (vx_l x1)] h2 (fun r4 h4 => vx_T 625 672 h4 → ((r4 = 0 → vx_CI d 66 [.long (vx_l x2)] h4 (fun r6 h6 => vx_T 625 672 h6 → ((r6 = 0 → (vx_rL x1) ∧ (vx_rL x2) ∧ ((x2 ≤ x1 → ((x1 ≤ x2 → P 0 h6) ∧ (x2 < x1 → P 1 h6))) ∧ (x1 < x2 → P ((-1)) h6))) ∧ (r6 ≠ 0 → vx_CL d 65 [.long (vx_l x2)] h6 (fun r12 h12 => vx_T 625 672 h12 → (vx_rL x1) ∧ ((r12 ≤ x1 → ((x1 ≤ r12 → P 0 h12) ∧ (r12 < x1 → P 1 h12))) ∧ (x1 < r12 → P ((-1)) h12))))))) ∧ (r4 ≠ 0 → vx_CL d 65 [.long (vx_l x1)] h4 (fun r16 h16 => vx_T 625 672 h16 → vx_CI d 66 [.long (vx_l x2)] h16 (fun r17 h17 => vx_T 625 672 h17 → ((r17 = 0 → (vx_rL x2) ∧ ((x2 ≤ r16 → ((r16 ≤ x2 → P 0 h17) ∧ (x2 < r16 → P 1 h17))) ∧ (r16 < x2 → P ((-1)) h17))) ∧ (r17 ≠ 0 → vx_CL d 65 [.long (vx_l x2)] h17 (fun r22 h22 => vx_T 625 672 h22 → ((r22 ≤ r16 → ((r16 ≤ r22 → P 0 h22) ∧ (r22 < r16 → P 1 h22))) ∧ (r16 < r22 → P ((-1)) h22))))))))))) ∧ (r1 ≠ r2 → vx_CI d 66 [.long (vx_l x2)] h2 (fun r25 h25 => vx_T 625 672 h25 → ((r25 = 0 → P 1 h25) ∧ (r25 ≠ 0 → P ((-1)) h25)))))))) : vx_CI (d + 1) 67 [.long (vx_l x1), .long (vx_l x2)] h P := by
  refine vx_enter (ml := 8) (by decide +kernel) ?_
  show vx_W _ _ 0 [some (.long (vx_l x1)), none, some (.long (vx_l x2)), none, none, none, none, none] [] h _
  refine vx_lload_n (n := 0) (q := 1) (by decide +kernel) rfl ?_
  refine vx_callI (i := .invokestatic 364) (how := 4) (cm := 66) (np := 1) (q := 4) (args := [.long (vx_l x1)]) (rest := []) (by decide +kernel) rfl rfl rfl (vx_w2 (w := 2) (ml := 2) rfl (by decide +kernel)) rfl H (fun r1 h1 hr1 hs1 H => ?_)
  have hT1 := vx_Tsh hT hs1
  replace H := H hT1
  refine vx_lload_n (n := 2) (q := 5) (by decide +kernel) rfl ?_
  refine vx_callI (i := .invokestatic 364) (how := 4) (cm := 66) (np := 1) (q := 8) (args := [.long (vx_l x2)]) (rest := [.int (vx_i r1)]) (by decide +kernel) rfl rfl rfl (vx_w2 (w := 2) (ml := 2) rfl (by decide +kernel)) rfl H (fun r2 h2 hr2 hs2 H => ?_)
  have hT2 := vx_Tsh hT1 hs2
  replace H := H hT2
  refine vx_icmp_eq (off := 16) (q := 11) (t := 24) (by decide +kernel) hr1 hr2 (fun c3 => ?_) (fun c3 => ?_)
  · replace H := H.1 c3
    refine vx_lload_n (n := 0) (q := 25) (by decide +kernel) rfl ?_
    refine vx_callI (i := .invokestatic 364) (how := 4) (cm := 66) (np := 1) (q := 28) (args := [.long (vx_l x1)]) (rest := []) (by decide +kernel) rfl rfl rfl (vx_w2 (w := 2) (ml := 2) rfl (by decide +kernel)) rfl H (fun r4 h4 hr4 hs4 H => ?_)
    have hT4 := vx_Tsh hT2 hs4
    replace H := H hT4
    refine vx_if0_eq (off := 10) (q := 31) (t := 38) (by decide +kernel) hr4 (fun c5 => ?_) (fun c5 => ?_)
    · replace H := H.1 c5
      refine vx_lload_n (n := 0) (q := 39) (by decide +kernel) rfl ?_
      refine vx_lstore (n := 4) (q := 41) (lv' := [some (.long (vx_l x1)), none, some (.long (vx_l x2)), none, some (.long (vx_l x1)), none, none, none]) (by decide +kernel) rfl ?_
      refine vx_lload_n (n := 2) (q := 42) (by decide +kernel) rfl ?_
      refine vx_callI (i := .invokestatic 364) (how := 4) (cm := 66) (np := 1) (q := 45) (args := [.long (vx_l x2)]) (rest := []) (by decide +kernel) rfl rfl rfl (vx_w2 (w := 2) (ml := 2) rfl (by decide +kernel)) rfl H (fun r6 h6 hr6 hs6 H => ?_)
      have hT6 := vx_Tsh hT4 hs6
      replace H := H hT6
      refine vx_if0_eq (off := 10) (q := 48) (t := 55) (by decide +kernel) hr6 (fun c7 => ?_) (fun c7 => ?_)
      · replace H := H.1 c7
        refine vx_lload_n (n := 2) (q := 56) (by decide +kernel) rfl ?_
        refine vx_lstore (n := 6) (q := 58) (lv' := [some (.long (vx_l x1)), none, some (.long (vx_l x2)), none, some (.long (vx_l x1)), none, some (.long (vx_l x2)), none]) (by decide +kernel) rfl ?_
        refine vx_lload (n := 4) (q := 60) (by decide +kernel) rfl ?_
        refine vx_lload (n := 6) (q := 62) (by decide +kernel) rfl ?_
        obtain ⟨k8, H⟩ := H
        obtain ⟨k9, H⟩ := H
        refine vx_lc_ge (off := 7) (p := 63) (q := 66) (t := 70) (by decide +kernel) k8 k9 (fun c10 => ?_) (fun c10 => ?_)
        · replace H := H.1 c10
          refine vx_lload (n := 4) (q := 72) (by decide +kernel) rfl ?_
          refine vx_lload (n := 6) (q := 74) (by decide +kernel) rfl ?_
          refine vx_lc_le (off := 7) (p := 75) (q := 78) (t := 82) (by decide +kernel) k8 k9 (fun c11 => ?_) (fun c11 => ?_)
          · replace H := H.1 c11
            refine vx_iconst (n := 0) (q := 83) (by decide +kernel) ?_
            refine vx_retI (q := 84) (by decide +kernel) (by decide) ?_
            exact H
          · replace H := H.2 c11
            refine vx_iconst (n := 1) (q := 79) (by decide +kernel) ?_
            refine vx_goto (off := 4) (q := 82) (t := 83) (by decide +kernel) ?_
            refine vx_retI (q := 84) (by decide +kernel) (by decide) ?_
            exact H
        · replace H := H.2 c10
          refine vx_iconst (n := (-1)) (q := 67) (by decide +kernel) ?_
          refine vx_goto (off := 16) (q := 70) (t := 83) (by decide +kernel) ?_
          refine vx_retI (q := 84) (by decide +kernel) (by decide) ?_
          exact H
      · replace H := H.2 c7
        refine vx_lload_n (n := 2) (q := 49) (by decide +kernel) rfl ?_
        refine vx_callL (i := .invokestatic 367) (how := 4) (cm := 65) (np := 1) (q := 52) (args := [.long (vx_l x2)]) (rest := []) (by decide +kernel) rfl rfl rfl (vx_w2 (w := 2) (ml := 4) rfl (by decide +kernel)) rfl H (fun r12 h12 hr12 hs12 H => ?_)
        have hT12 := vx_Tsh hT6 hs12
        replace H := H hT12
        refine vx_goto (off := 4) (q := 55) (t := 56) (by decide +kernel) ?_
        refine vx_lstore (n := 6) (q := 58) (lv' := [some (.long (vx_l x1)), none, some (.long (vx_l x2)), none, some (.long (vx_l x1)), none, some (.long (vx_l r12)), none]) (by decide +kernel) rfl ?_
        refine vx_lload (n := 4) (q := 60) (by decide +kernel) rfl ?_
        refine vx_lload (n := 6) (q := 62) (by decide +kernel) rfl ?_
        obtain ⟨k13, H⟩ := H
        refine vx_lc_ge (off := 7) (p := 63) (q := 66) (t := 70) (by decide +kernel) k13 hr12 (fun c14 => ?_) (fun c14 => ?_)
        · replace H := H.1 c14
          refine vx_lload (n := 4) (q := 72) (by decide +kernel) rfl ?_
          refine vx_lload (n := 6) (q := 74) (by decide +kernel) rfl ?_
          refine vx_lc_le (off := 7) (p := 75) (q := 78) (t := 82) (by decide +kernel) k13 hr12 (fun c15 => ?_) (fun c15 => ?_)
          · replace H := H.1 c15
            refine vx_iconst (n := 0) (q := 83) (by decide +kernel) ?_
            refine vx_retI (q := 84) (by decide +kernel) (by decide) ?_
            exact H
          · replace H := H.2 c15
            refine vx_iconst (n := 1) (q := 79) (by decide +kernel) ?_
            refine vx_goto (off := 4) (q := 82) (t := 83) (by decide +kernel) ?_
            refine vx_retI (q := 84) (by decide +kernel) (by decide) ?_
            exact H
        · replace H := H.2 c14
          refine vx_iconst (n := (-1)) (q := 67) (by decide +kernel) ?_
          refine vx_goto (off := 16) (q := 70) (t := 83) (by decide +kernel) ?_
          refine vx_retI (q := 84) (by decide +kernel) (by decide) ?_
          exact H
    · replace H := H.2 c5
      refine vx_lload_n (n := 0) (q := 32) (by decide +kernel) rfl ?_
      refine vx_callL (i := .invokestatic 367) (how := 4) (cm := 65) (np := 1) (q := 35) (args := [.long (vx_l x1)]) (rest := []) (by decide +kernel) rfl rfl rfl (vx_w2 (w := 2) (ml := 4) rfl (by decide +kernel)) rfl H (fun r16 h16 hr16 hs16 H => ?_)
      have hT16 := vx_Tsh hT4 hs16
      replace H := H hT16
      refine vx_goto (off := 4) (q := 38) (t := 39) (by decide +kernel) ?_
      refine vx_lstore (n := 4) (q := 41) (lv' := [some (.long (vx_l x1)), none, some (.long (vx_l x2)), none, some (.long (vx_l r16)), none, none, none]) (by decide +kernel) rfl ?_
      refine vx_lload_n (n := 2) (q := 42) (by decide +kernel) rfl ?_
      refine vx_callI (i := .invokestatic 364) (how := 4) (cm := 66) (np := 1) (q := 45) (args := [.long (vx_l x2)]) (rest := []) (by decide +kernel) rfl rfl rfl (vx_w2 (w := 2) (ml := 2) rfl (by decide +kernel)) rfl H (fun r17 h17 hr17 hs17 H => ?_)
      have hT17 := vx_Tsh hT16 hs17
      replace H := H hT17
      refine vx_if0_eq (off := 10) (q := 48) (t := 55) (by decide +kernel) hr17 (fun c18 => ?_) (fun c18 => ?_)
      · replace H := H.1 c18
        refine vx_lload_n (n := 2) (q := 56) (by decide +kernel) rfl ?_
        refine vx_lstore (n := 6) (q := 58) (lv' := [some (.long (vx_l x1)), none, some (.long (vx_l x2)), none, some (.long (vx_l r16)), none, some (.long (vx_l x2)), none]) (by decide +kernel) rfl ?_
        refine vx_lload (n := 4) (q := 60) (by decide +kernel) rfl ?_
        refine vx_lload (n := 6) (q := 62) (by decide +kernel) rfl ?_
        obtain ⟨k19, H⟩ := H
        refine vx_lc_ge (off := 7) (p := 63) (q := 66) (t := 70) (by decide +kernel) hr16 k19 (fun c20 => ?_) (fun c20 => ?_)
        · replace H := H.1 c20
          refine vx_lload (n := 4) (q := 72) (by decide +kernel) rfl ?_
          refine vx_lload (n := 6) (q := 74) (by decide +kernel) rfl ?_
          refine vx_lc_le (off := 7) (p := 75) (q := 78) (t := 82) (by decide +kernel) hr16 k19 (fun c21 => ?_) (fun c21 => ?_)
          · replace H := H.1 c21
            refine vx_iconst (n := 0) (q := 83) (by decide +kernel) ?_
            refine vx_retI (q := 84) (by decide +kernel) (by decide) ?_
            exact H
          · replace H := H.2 c21
            refine vx_iconst (n := 1) (q := 79) (by decide +kernel) ?_
            refine vx_goto (off := 4) (q := 82) (t := 83) (by decide +kernel) ?_
            refine vx_retI (q := 84) (by decide +kernel) (by decide) ?_
            exact H
        · replace H := H.2 c20
          refine vx_iconst (n := (-1)) (q := 67) (by decide +kernel) ?_
          refine vx_goto (off := 16) (q := 70) (t := 83) (by decide +kernel) ?_
          refine vx_retI (q := 84) (by decide +kernel) (by decide) ?_
          exact H
      · replace H := H.2 c18
        refine vx_lload_n (n := 2) (q := 49) (by decide +kernel) rfl ?_
        refine vx_callL (i := .invokestatic 367) (how := 4) (cm := 65) (np := 1) (q := 52) (args := [.long (vx_l x2)]) (rest := []) (by decide +kernel) rfl rfl rfl (vx_w2 (w := 2) (ml := 4) rfl (by decide +kernel)) rfl H (fun r22 h22 hr22 hs22 H => ?_)
        have hT22 := vx_Tsh hT17 hs22
        replace H := H hT22
        refine vx_goto (off := 4) (q := 55) (t := 56) (by decide +kernel) ?_
        refine vx_lstore (n := 6) (q := 58) (lv' := [some (.long (vx_l x1)), none, some (.long (vx_l x2)), none, some (.long (vx_l r16)), none, some (.long (vx_l r22)), none]) (by decide +kernel) rfl ?_
        refine vx_lload (n := 4) (q := 60) (by decide +kernel) rfl ?_
        refine vx_lload (n := 6) (q := 62) (by decide +kernel) rfl ?_
        refine vx_lc_ge (off := 7) (p := 63) (q := 66) (t := 70) (by decide +kernel) hr16 hr22 (fun c23 => ?_) (fun c23 => ?_)
        · replace H := H.1 c23
          refine vx_lload (n := 4) (q := 72) (by decide +kernel) rfl ?_
          refine vx_lload (n := 6) (q := 74) (by decide +kernel) rfl ?_
          refine vx_lc_le (off := 7) (p := 75) (q := 78) (t := 82) (by decide +kernel) hr16 hr22 (fun c24 => ?_) (fun c24 => ?_)
          · replace H := H.1 c24
            refine vx_iconst (n := 0) (q := 83) (by decide +kernel) ?_
            refine vx_retI (q := 84) (by decide +kernel) (by decide) ?_
            exact H
          · replace H := H.2 c24
            refine vx_iconst (n := 1) (q := 79) (by decide +kernel) ?_
            refine vx_goto (off := 4) (q := 82) (t := 83) (by decide +kernel) ?_
            refine vx_retI (q := 84) (by decide +kernel) (by decide) ?_
            exact H
        · replace H := H.2 c23
          refine vx_iconst (n := (-1)) (q := 67) (by decide +kernel) ?_
          refine vx_goto (off := 16) (q := 70) (t := 83) (by decide +kernel) ?_
          refine vx_retI (q := 84) (by decide +kernel) (by decide) ?_
          exact H
  · replace H := H.2 c3
    refine vx_lload_n (n := 2) (q := 12) (by decide +kernel) rfl ?_
    refine vx_callI (i := .invokestatic 364) (how := 4) (cm := 66) (np := 1) (q := 15) (args := [.long (vx_l x2)]) (rest := []) (by decide +kernel) rfl rfl rfl (vx_w2 (w := 2) (ml := 2) rfl (by decide +kernel)) rfl H (fun r25 h25 hr25 hs25 H => ?_)
    have hT25 := vx_Tsh hT2 hs25
    replace H := H hT25
    refine vx_if0_eq (off := 7) (q := 18) (t := 22) (by decide +kernel) hr25 (fun c26 => ?_) (fun c26 => ?_)
    · replace H := H.1 c26
      refine vx_iconst (n := 1) (q := 23) (by decide +kernel) ?_
      refine vx_retI (q := 24) (by decide +kernel) (by decide) ?_
      exact H
    · replace H := H.2 c26
      refine vx_iconst (n := (-1)) (q := 19) (by decide +kernel) ?_
      refine vx_goto (off := 4) (q := 22) (t := 23) (by decide +kernel) ?_
      refine vx_retI (q := 24) (by decide +kernel) (by decide) ?_
      exact H
-- RuleHouseModel.isTermThere(II)Z
theorem vg_68 {d : Nat} {h : ve_H} {P : Int → ve_H → Prop} {x1 : Int} {x2 : Int} (hT : vx_T 625 672 h) (H : (0 ≤ ((4 * x1) + x2) ∧ ((4 * x1) + x2) < 1464) ∧ (((vx_J h 645 ((4 * x1) + x2).toNat) = 0 → P 1 h) ∧ ((vx_J h 645 ((4 * x1) + x2).toNat) ≠ 0 → (0 ≤ ((4 * x1) + x2) ∧ ((4 * x1) + x2) < 1464) ∧ (0 ≤ (vx_K h 646 ((4 * x1) + x2).toNat) ∧ (vx_K h 646 ((4 * x1) + x2).toNat) < 9) ∧ (((vx_J h 664 (vx_K h 646 ((4 * x1) + x2).toNat).toNat) = 0 → P 0 h) ∧ ((vx_J h 664 (vx_K h 646 ((4 * x1) + x2).toNat).toNat) ≠ 0 → P 1 h))))) : vx_CI d 68 [.ref 625, .int (vx_i x1), .int (vx_i x2)] h P := by
  refine vx_enter (ml := 3) (by decide +kernel) ?_
  show vx_W _ _ 0 [some (.ref 625), some (.int (vx_i x1)), some (.int (vx_i x2))] [] h _
  refine vx_aload_n (n := 0) (q := 1) (by decide +kernel) rfl ?_
  refine vx_getR (b := 645) (idx := 68) (kd := 9) (s := 26) (fin := true) (q := 4) (by decide +kernel) (vx_Tk hT (by decide +kernel)) (vx_Tr hT (kd := 9) (by decide +kernel) (by decide +kernel) (by decide +kernel)) ?_
  refine vx_iconst (n := 4) (q := 5) (by decide +kernel) ?_
  refine vx_iload_n (n := 1) (q := 6) (by decide +kernel) rfl ?_
  refine vx_imul (q := 7) (by decide +kernel) ?_
  refine vx_iload_n (n := 2) (q := 8) (by decide +kernel) rfl ?_
  refine vx_iadd (q := 9) (by decide +kernel) ?_
  obtain ⟨k1, H⟩ := H
  refine vx_iaload (z := 1464) (q := 10) (by decide +kernel) (vx_Tk hT (by decide +kernel)) (vx_Tz hT (by decide +kernel)) (vx_ix k1 (by decide)) ?_
  refine vx_if0_eq (off := 22) (q := 13) (t := 32) (by decide +kernel) (vx_rI_J h 645 ((4 * x1) + x2).toNat) (fun c2 => ?_) (fun c2 => ?_)
  · replace H := H.1 c2
    refine vx_iconst (n := 1) (q := 33) (by decide +kernel) ?_
    refine vx_goto (off := 4) (q := 36) (t := 37) (by decide +kernel) ?_
    refine vx_retZ (q := 38) (by decide +kernel) (Or.inr rfl) ?_
    exact H
  · replace H := H.2 c2
    refine vx_aload_n (n := 0) (q := 14) (by decide +kernel) rfl ?_
    refine vx_getR (b := 664) (idx := 130) (kd := 9) (s := 63) (fin := true) (q := 17) (by decide +kernel) (vx_Tk hT (by decide +kernel)) (vx_Tr hT (kd := 9) (by decide +kernel) (by decide +kernel) (by decide +kernel)) ?_
    refine vx_aload_n (n := 0) (q := 18) (by decide +kernel) rfl ?_
    refine vx_getR (b := 646) (idx := 71) (kd := 9) (s := 27) (fin := true) (q := 21) (by decide +kernel) (vx_Tk hT (by decide +kernel)) (vx_Tr hT (kd := 9) (by decide +kernel) (by decide +kernel) (by decide +kernel)) ?_
    refine vx_iconst (n := 4) (q := 22) (by decide +kernel) ?_
    refine vx_iload_n (n := 1) (q := 23) (by decide +kernel) rfl ?_
    refine vx_imul (q := 24) (by decide +kernel) ?_
    refine vx_iload_n (n := 2) (q := 25) (by decide +kernel) rfl ?_
    refine vx_iadd (q := 26) (by decide +kernel) ?_
    obtain ⟨k3, H⟩ := H
    refine vx_laload (z := 1464) (q := 27) (by decide +kernel) (vx_Tk hT (by decide +kernel)) (vx_Tz hT (by decide +kernel)) (vx_ix k3 (by decide)) ?_
    refine vx_l2i (q := 28) (by decide +kernel) ?_
    obtain ⟨k4, H⟩ := H
    refine vx_zaload (z := 9) (q := 29) (by decide +kernel) (vx_Tk hT (by decide +kernel)) (vx_Tz hT (by decide +kernel)) (vx_ix k4 (by decide)) ?_
    refine vx_if0_eq (off := 7) (q := 32) (t := 36) (by decide +kernel) (vx_rI_J h 664 (vx_K h 646 ((4 * x1) + x2).toNat).toNat) (fun c5 => ?_) (fun c5 => ?_)
    · replace H := H.1 c5
      refine vx_iconst (n := 0) (q := 37) (by decide +kernel) ?_
      refine vx_retZ (q := 38) (by decide +kernel) (Or.inl rfl) ?_
      exact H
    · replace H := H.2 c5
      refine vx_iconst (n := 1) (q := 33) (by decide +kernel) ?_
      refine vx_goto (off := 4) (q := 36) (t := 37) (by decide +kernel) ?_
      refine vx_retZ (q := 38) (by decide +kernel) (Or.inr rfl) ?_
      exact H
-- RuleHouseModel.termOf(II)J
theorem vg_69 {d : Nat} {h : ve_H} {P : Int → ve_H → Prop} {x1 : Int} {x2 : Int} (hT : vx_T 625 672 h) (H : (0 ≤ ((4 * x1) + x2) ∧ ((4 * x1) + x2) < 1464) ∧ (((vx_J h 645 ((4 * x1) + x2).toNat) ≠ 0 → (0 ≤ ((4 * x1) + x2) ∧ ((4 * x1) + x2) < 1464) ∧ (0 ≤ (vx_K h 646 ((4 * x1) + x2).toNat) ∧ (vx_K h 646 ((4 * x1) + x2).toNat) < 9) ∧ P (vx_K h 665 (vx_K h 646 ((4 * x1) + x2).toNat).toNat) h) ∧ ((vx_J h 645 ((4 * x1) + x2).toNat) = 0 → (0 ≤ ((4 * x1) + x2) ∧ ((4 * x1) + x2) < 1464) ∧ P (vx_K h 646 ((4 * x1) + x2).toNat) h))) : vx_CL d 69 [.ref 625, .int (vx_i x1), .int (vx_i x2)] h P := by
  refine vx_enter (ml := 3) (by decide +kernel) ?_
  show vx_W _ _ 0 [some (.ref 625), some (.int (vx_i x1)), some (.int (vx_i x2))] [] h _
  refine vx_aload_n (n := 0) (q := 1) (by decide +kernel) rfl ?_
  refine vx_getR (b := 645) (idx := 68) (kd := 9) (s := 26) (fin := true) (q := 4) (by decide +kernel) (vx_Tk hT (by decide +kernel)) (vx_Tr hT (kd := 9) (by decide +kernel) (by decide +kernel) (by decide +kernel)) ?_
  refine vx_iconst (n := 4) (q := 5) (by decide +kernel) ?_
  refine vx_iload_n (n := 1) (q := 6) (by decide +kernel) rfl ?_
  refine vx_imul (q := 7) (by decide +kernel) ?_
  refine vx_iload_n (n := 2) (q := 8) (by decide +kernel) rfl ?_
  refine vx_iadd (q := 9) (by decide +kernel) ?_
  obtain ⟨k1, H⟩ := H
  refine vx_iaload (z := 1464) (q := 10) (by decide +kernel) (vx_Tk hT (by decide +kernel)) (vx_Tz hT (by decide +kernel)) (vx_ix k1 (by decide)) ?_
  refine vx_if0_ne (off := 16) (q := 13) (t := 26) (by decide +kernel) (vx_rI_J h 645 ((4 * x1) + x2).toNat) (fun c2 => ?_) (fun c2 => ?_)
  · replace H := H.1 c2
    refine vx_aload_n (n := 0) (q := 27) (by decide +kernel) rfl ?_
    refine vx_getR (b := 665) (idx := 133) (kd := 9) (s := 64) (fin := true) (q := 30) (by decide +kernel) (vx_Tk hT (by decide +kernel)) (vx_Tr hT (kd := 9) (by decide +kernel) (by decide +kernel) (by decide +kernel)) ?_
    refine vx_aload_n (n := 0) (q := 31) (by decide +kernel) rfl ?_
    refine vx_getR (b := 646) (idx := 71) (kd := 9) (s := 27) (fin := true) (q := 34) (by decide +kernel) (vx_Tk hT (by decide +kernel)) (vx_Tr hT (kd := 9) (by decide +kernel) (by decide +kernel) (by decide +kernel)) ?_
    refine vx_iconst (n := 4) (q := 35) (by decide +kernel) ?_
    refine vx_iload_n (n := 1) (q := 36) (by decide +kernel) rfl ?_
    refine vx_imul (q := 37) (by decide +kernel) ?_
    refine vx_iload_n (n := 2) (q := 38) (by decide +kernel) rfl ?_
    refine vx_iadd (q := 39) (by decide +kernel) ?_
    obtain ⟨k3, H⟩ := H
    refine vx_laload (z := 1464) (q := 40) (by decide +kernel) (vx_Tk hT (by decide +kernel)) (vx_Tz hT (by decide +kernel)) (vx_ix k3 (by decide)) ?_
    refine vx_l2i (q := 41) (by decide +kernel) ?_
    obtain ⟨k4, H⟩ := H
    refine vx_laload (z := 9) (q := 42) (by decide +kernel) (vx_Tk hT (by decide +kernel)) (vx_Tz hT (by decide +kernel)) (vx_ix k4 (by decide)) ?_
    refine vx_retL (q := 43) (by decide +kernel) (vx_rL_K h 665 (vx_K h 646 ((4 * x1) + x2).toNat).toNat) ?_
    exact H
  · replace H := H.2 c2
    refine vx_aload_n (n := 0) (q := 14) (by decide +kernel) rfl ?_
    refine vx_getR (b := 646) (idx := 71) (kd := 9) (s := 27) (fin := true) (q := 17) (by decide +kernel) (vx_Tk hT (by decide +kernel)) (vx_Tr hT (kd := 9) (by decide +kernel) (by decide +kernel) (by decide +kernel)) ?_
    refine vx_iconst (n := 4) (q := 18) (by decide +kernel) ?_
    refine vx_iload_n (n := 1) (q := 19) (by decide +kernel) rfl ?_
    refine vx_imul (q := 20) (by decide +kernel) ?_
    refine vx_iload_n (n := 2) (q := 21) (by decide +kernel) rfl ?_
    refine vx_iadd (q := 22) (by decide +kernel) ?_
    obtain ⟨k5, H⟩ := H
    refine vx_laload (z := 1464) (q := 23) (by decide +kernel) (vx_Tk hT (by decide +kernel)) (vx_Tz hT (by decide +kernel)) (vx_ix k5 (by decide)) ?_
    refine vx_goto (off := 19) (q := 26) (t := 42) (by decide +kernel) ?_
    refine vx_retL (q := 43) (by decide +kernel) (vx_rL_K h 646 ((4 * x1) + x2).toNat) ?_
    exact H
-- RuleHouseModel.isLike(II)Z
theorem vg_70 {d : Nat} {h : ve_H} {P : Int → ve_H → Prop} {x1 : Int} {x2 : Int} (hT : vx_T 625 672 h) (H : (0 ≤ x1 ∧ x1 < 260) ∧ (0 ≤ x2 ∧ x2 < 366) ∧ (((vx_J h 650 x1.toNat) = (vx_J h 644 x2.toNat) → vx_W (d + 1) 70 19 [some (.ref 625), some (.int (vx_i x1)), some (.int (vx_i x2)), some (.int (vx_i 0)), none] [] h (vx_RI P)) ∧ ((vx_J h 650 x1.toNat) ≠ (vx_J h 644 x2.toNat) → P 0 h))) : vx_CI (d + 1) 70 [.ref 625, .int (vx_i x1), .int (vx_i x2)] h P := by
  refine vx_enter (ml := 5) (by decide +kernel) ?_
  show vx_W _ _ 0 [some (.ref 625), some (.int (vx_i x1)), some (.int (vx_i x2)), none, none] [] h _
  refine vx_aload_n (n := 0) (q := 1) (by decide +kernel) rfl ?_
  refine vx_getR (b := 650) (idx := 87) (kd := 9) (s := 33) (fin := true) (q := 4) (by decide +kernel) (vx_Tk hT (by decide +kernel)) (vx_Tr hT (kd := 9) (by decide +kernel) (by decide +kernel) (by decide +kernel)) ?_
  refine vx_iload_n (n := 1) (q := 5) (by decide +kernel) rfl ?_
  obtain ⟨k1, H⟩ := H
  refine vx_iaload (z := 260) (q := 6) (by decide +kernel) (vx_Tk hT (by decide +kernel)) (vx_Tz hT (by decide +kernel)) (vx_ix k1 (by decide)) ?_
  refine vx_aload_n (n := 0) (q := 7) (by decide +kernel) rfl ?_
  refine vx_getR (b := 644) (idx := 65) (kd := 9) (s := 25) (fin := true) (q := 10) (by decide +kernel) (vx_Tk hT (by decide +kernel)) (vx_Tr hT (kd := 9) (by decide +kernel) (by decide +kernel) (by decide +kernel)) ?_
  refine vx_iload_n (n := 2) (q := 11) (by decide +kernel) rfl ?_
  obtain ⟨k2, H⟩ := H
  refine vx_iaload (z := 366) (q := 12) (by decide +kernel) (vx_Tk hT (by decide +kernel)) (vx_Tz hT (by decide +kernel)) (vx_ix k2 (by decide)) ?_
  refine vx_icmp_eq (off := 5) (q := 15) (t := 17) (by decide +kernel) (vx_rI_J h 650 x1.toNat) (vx_rI_J h 644 x2.toNat) (fun c3 => ?_) (fun c3 => ?_)
  · replace H := H.1 c3
    refine vx_iconst (n := 0) (q := 18) (by decide +kernel) ?_
    refine vx_istore_n (n := 3) (q := 19) (lv' := [some (.ref 625), some (.int (vx_i x1)), some (.int (vx_i x2)), some (.int (vx_i 0)), none]) (by decide +kernel) rfl ?_
    exact H
  · replace H := H.2 c3
    refine vx_iconst (n := 0) (q := 16) (by decide +kernel) ?_
    refine vx_retZ (q := 17) (by decide +kernel) (Or.inl rfl) ?_
    exact H
theorem vg_70_19 {d : Nat} {h : ve_H} {P : Int → ve_H → Prop} {v1 : Int} {v2 : Int} {v3 : Int} {v4 : Option Value} (hT : vx_T 625 672 h) (H : (0 ≤ v2 ∧ v2 < 366) ∧ (vx_rI v3) ∧ (((vx_J h 661 v2.toNat) ≤ v3 → P 1 h) ∧ (v3 < (vx_J h 661 v2.toNat) → (0 ≤ ((4 * v2) + v3) ∧ ((4 * v2) + v3) < 1464) ∧ (((vx_J h 645 ((4 * v2) + v3).toNat) = 2 → vx_W (d + 1) 70 19 [some (.ref 625), some (.int (vx_i v1)), some (.int (vx_i v2)), some (.int (vx_i (v3 + 1))), some (.int (vx_i (vx_J h 645 ((4 * v2) + v3).toNat)))] [] h (vx_RI P)) ∧ ((vx_J h 645 ((4 * v2) + v3).toNat) ≠ 2 → (((vx_J h 645 ((4 * v2) + v3).toNat) ≠ 1 → vx_CL d 69 [.ref 625, .int (vx_i v2), .int (vx_i v3)] h (fun r7 h7 => vx_T 625 672 h7 → (0 ≤ ((4 * v1) + v3) ∧ ((4 * v1) + v3) < 1040) ∧ ((r7 = (vx_K h7 652 ((4 * v1) + v3).toNat) → vx_W (d + 1) 70 19 [some (.ref 625), some (.int (vx_i v1)), some (.int (vx_i v2)), some (.int (vx_i (v3 + 1))), some (.int (vx_i (vx_J h 645 ((4 * v2) + v3).toNat)))] [] h7 (vx_RI P)) ∧ (r7 ≠ (vx_K h7 652 ((4 * v1) + v3).toNat) → P 0 h7)))) ∧ ((vx_J h 645 ((4 * v2) + v3).toNat) = 1 → (0 ≤ ((4 * v2) + v3) ∧ ((4 * v2) + v3) < 1464) ∧ (0 ≤ (vx_K h 646 ((4 * v2) + v3).toNat) ∧ (vx_K h 646 ((4 * v2) + v3).toNat) < 9) ∧ (((vx_J h 664 (vx_K h 646 ((4 * v2) + v3).toNat).toNat) ≠ 0 → vx_CL d 69 [.ref 625, .int (vx_i v2), .int (vx_i v3)] h (fun r13 h13 => vx_T 625 672 h13 → (0 ≤ ((4 * v1) + v3) ∧ ((4 * v1) + v3) < 1040) ∧ ((r13 = (vx_K h13 652 ((4 * v1) + v3).toNat) → vx_W (d + 1) 70 19 [some (.ref 625), some (.int (vx_i v1)), some (.int (vx_i v2)), some (.int (vx_i (v3 + 1))), some (.int (vx_i (vx_J h 645 ((4 * v2) + v3).toNat)))] [] h13 (vx_RI P)) ∧ (r13 ≠ (vx_K h13 652 ((4 * v1) + v3).toNat) → P 0 h13)))) ∧ ((vx_J h 664 (vx_K h 646 ((4 * v2) + v3).toNat).toNat) = 0 → vx_W (d + 1) 70 19 [some (.ref 625), some (.int (vx_i v1)), some (.int (vx_i v2)), some (.int (vx_i (v3 + 1))), some (.int (vx_i (vx_J h 645 ((4 * v2) + v3).toNat)))] [] h (vx_RI P)))))))))) : vx_W (d + 1) 70 19 [some (.ref 625), some (.int (vx_i v1)), some (.int (vx_i v2)), some (.int (vx_i v3)), v4] [] h (vx_RI P) := by
  refine vx_iload_n (n := 3) (q := 20) (by decide +kernel) rfl ?_
  refine vx_aload_n (n := 0) (q := 21) (by decide +kernel) rfl ?_
  refine vx_getR (b := 661) (idx := 121) (kd := 9) (s := 60) (fin := true) (q := 24) (by decide +kernel) (vx_Tk hT (by decide +kernel)) (vx_Tr hT (kd := 9) (by decide +kernel) (by decide +kernel) (by decide +kernel)) ?_
  refine vx_iload_n (n := 2) (q := 25) (by decide +kernel) rfl ?_
  obtain ⟨k1, H⟩ := H
  refine vx_iaload (z := 366) (q := 26) (by decide +kernel) (vx_Tk hT (by decide +kernel)) (vx_Tz hT (by decide +kernel)) (vx_ix k1 (by decide)) ?_
  obtain ⟨k2, H⟩ := H
  refine vx_icmp_ge (off := 77) (q := 29) (t := 103) (by decide +kernel) k2 (vx_rI_J h 661 v2.toNat) (fun c3 => ?_) (fun c3 => ?_)
  · replace H := H.1 c3
    refine vx_iconst (n := 1) (q := 104) (by decide +kernel) ?_
    refine vx_retZ (q := 105) (by decide +kernel) (Or.inr rfl) ?_
    exact H
  · replace H := H.2 c3
    refine vx_aload_n (n := 0) (q := 30) (by decide +kernel) rfl ?_
    refine vx_getR (b := 645) (idx := 68) (kd := 9) (s := 26) (fin := true) (q := 33) (by decide +kernel) (vx_Tk hT (by decide +kernel)) (vx_Tr hT (kd := 9) (by decide +kernel) (by decide +kernel) (by decide +kernel)) ?_
    refine vx_iconst (n := 4) (q := 34) (by decide +kernel) ?_
    refine vx_iload_n (n := 2) (q := 35) (by decide +kernel) rfl ?_
    refine vx_imul (q := 36) (by decide +kernel) ?_
    refine vx_iload_n (n := 3) (q := 37) (by decide +kernel) rfl ?_
    refine vx_iadd (q := 38) (by decide +kernel) ?_
    obtain ⟨k4, H⟩ := H
    refine vx_iaload (z := 1464) (q := 39) (by decide +kernel) (vx_Tk hT (by decide +kernel)) (vx_Tz hT (by decide +kernel)) (vx_ix k4 (by decide)) ?_
    refine vx_istore (n := 4) (q := 41) (lv' := [some (.ref 625), some (.int (vx_i v1)), some (.int (vx_i v2)), some (.int (vx_i v3)), some (.int (vx_i (vx_J h 645 ((4 * v2) + v3).toNat)))]) (by decide +kernel) rfl ?_
    refine vx_iload (n := 4) (q := 43) (by decide +kernel) rfl ?_
    refine vx_iconst (n := 2) (q := 44) (by decide +kernel) ?_
    refine vx_icmp_eq (off := 53) (q := 47) (t := 97) (by decide +kernel) (vx_rI_J h 645 ((4 * v2) + v3).toNat) (by decide) (fun c5 => ?_) (fun c5 => ?_)
    · replace H := H.1 c5
      refine vx_iinc (n := 3) (m := 1) (x := v3) (q := 100) (lv' := [some (.ref 625), some (.int (vx_i v1)), some (.int (vx_i v2)), some (.int (vx_i (v3 + 1))), some (.int (vx_i (vx_J h 645 ((4 * v2) + v3).toNat)))]) (by decide +kernel) rfl rfl ?_
      refine vx_goto (off := (-81)) (q := 103) (t := 19) (by decide +kernel) ?_
      exact H
    · replace H := H.2 c5
      refine vx_iload (n := 4) (q := 49) (by decide +kernel) rfl ?_
      refine vx_iconst (n := 1) (q := 50) (by decide +kernel) ?_
      refine vx_icmp_ne (off := 25) (q := 53) (t := 75) (by decide +kernel) (vx_rI_J h 645 ((4 * v2) + v3).toNat) (by decide) (fun c6 => ?_) (fun c6 => ?_)
      · replace H := H.1 c6
        refine vx_aload_n (n := 0) (q := 76) (by decide +kernel) rfl ?_
        refine vx_iload_n (n := 2) (q := 77) (by decide +kernel) rfl ?_
        refine vx_iload_n (n := 3) (q := 78) (by decide +kernel) rfl ?_
        refine vx_callL (i := .invokevirtual 371) (how := 3) (cm := 69) (np := 3) (q := 81) (args := [.ref 625, .int (vx_i v2), .int (vx_i v3)]) (rest := []) (by decide +kernel) rfl rfl rfl (vx_w2 (w := 3) (ml := 3) rfl (by decide +kernel)) (vx_rcv (kd := 9) (vx_Tk hT (by decide +kernel)) (by decide +kernel)) H (fun r7 h7 hr7 hs7 H => ?_)
        have hT7 := vx_Tsh hT hs7
        replace H := H hT7
        refine vx_aload_n (n := 0) (q := 82) (by decide +kernel) rfl ?_
        refine vx_getR (b := 652) (idx := 93) (kd := 9) (s := 35) (fin := true) (q := 85) (by decide +kernel) (vx_Tk hT7 (by decide +kernel)) (vx_Tr hT7 (kd := 9) (by decide +kernel) (by decide +kernel) (by decide +kernel)) ?_
        refine vx_iconst (n := 4) (q := 86) (by decide +kernel) ?_
        refine vx_iload_n (n := 1) (q := 87) (by decide +kernel) rfl ?_
        refine vx_imul (q := 88) (by decide +kernel) ?_
        refine vx_iload_n (n := 3) (q := 89) (by decide +kernel) rfl ?_
        refine vx_iadd (q := 90) (by decide +kernel) ?_
        obtain ⟨k8, H⟩ := H
        refine vx_laload (z := 1040) (q := 91) (by decide +kernel) (vx_Tk hT7 (by decide +kernel)) (vx_Tz hT7 (by decide +kernel)) (vx_ix k8 (by decide)) ?_
        refine vx_lc_eq (off := 5) (p := 92) (q := 95) (t := 97) (by decide +kernel) hr7 (vx_rL_K h7 652 ((4 * v1) + v3).toNat) (fun c9 => ?_) (fun c9 => ?_)
        · replace H := H.1 c9
          refine vx_iinc (n := 3) (m := 1) (x := v3) (q := 100) (lv' := [some (.ref 625), some (.int (vx_i v1)), some (.int (vx_i v2)), some (.int (vx_i (v3 + 1))), some (.int (vx_i (vx_J h 645 ((4 * v2) + v3).toNat)))]) (by decide +kernel) rfl rfl ?_
          refine vx_goto (off := (-81)) (q := 103) (t := 19) (by decide +kernel) ?_
          exact H
        · replace H := H.2 c9
          refine vx_iconst (n := 0) (q := 96) (by decide +kernel) ?_
          refine vx_retZ (q := 97) (by decide +kernel) (Or.inl rfl) ?_
          exact H
      · replace H := H.2 c6
        refine vx_aload_n (n := 0) (q := 54) (by decide +kernel) rfl ?_
        refine vx_getR (b := 664) (idx := 130) (kd := 9) (s := 63) (fin := true) (q := 57) (by decide +kernel) (vx_Tk hT (by decide +kernel)) (vx_Tr hT (kd := 9) (by decide +kernel) (by decide +kernel) (by decide +kernel)) ?_
        refine vx_aload_n (n := 0) (q := 58) (by decide +kernel) rfl ?_
        refine vx_getR (b := 646) (idx := 71) (kd := 9) (s := 27) (fin := true) (q := 61) (by decide +kernel) (vx_Tk hT (by decide +kernel)) (vx_Tr hT (kd := 9) (by decide +kernel) (by decide +kernel) (by decide +kernel)) ?_
        refine vx_iconst (n := 4) (q := 62) (by decide +kernel) ?_
        refine vx_iload_n (n := 2) (q := 63) (by decide +kernel) rfl ?_
        refine vx_imul (q := 64) (by decide +kernel) ?_
        refine vx_iload_n (n := 3) (q := 65) (by decide +kernel) rfl ?_
        refine vx_iadd (q := 66) (by decide +kernel) ?_
        obtain ⟨k10, H⟩ := H
        refine vx_laload (z := 1464) (q := 67) (by decide +kernel) (vx_Tk hT (by decide +kernel)) (vx_Tz hT (by decide +kernel)) (vx_ix k10 (by decide)) ?_
        refine vx_l2i (q := 68) (by decide +kernel) ?_
        obtain ⟨k11, H⟩ := H
        refine vx_zaload (z := 9) (q := 69) (by decide +kernel) (vx_Tk hT (by decide +kernel)) (vx_Tz hT (by decide +kernel)) (vx_ix k11 (by decide)) ?_
        refine vx_if0_ne (off := 6) (q := 72) (t := 75) (by decide +kernel) (vx_rI_J h 664 (vx_K h 646 ((4 * v2) + v3).toNat).toNat) (fun c12 => ?_) (fun c12 => ?_)
        · replace H := H.1 c12
          refine vx_aload_n (n := 0) (q := 76) (by decide +kernel) rfl ?_
          refine vx_iload_n (n := 2) (q := 77) (by decide +kernel) rfl ?_
          refine vx_iload_n (n := 3) (q := 78) (by decide +kernel) rfl ?_
          refine vx_callL (i := .invokevirtual 371) (how := 3) (cm := 69) (np := 3) (q := 81) (args := [.ref 625, .int (vx_i v2), .int (vx_i v3)]) (rest := []) (by decide +kernel) rfl rfl rfl (vx_w2 (w := 3) (ml := 3) rfl (by decide +kernel)) (vx_rcv (kd := 9) (vx_Tk hT (by decide +kernel)) (by decide +kernel)) H (fun r13 h13 hr13 hs13 H => ?_)
          have hT13 := vx_Tsh hT hs13
          replace H := H hT13
          refine vx_aload_n (n := 0) (q := 82) (by decide +kernel) rfl ?_
          refine vx_getR (b := 652) (idx := 93) (kd := 9) (s := 35) (fin := true) (q := 85) (by decide +kernel) (vx_Tk hT13 (by decide +kernel)) (vx_Tr hT13 (kd := 9) (by decide +kernel) (by decide +kernel) (by decide +kernel)) ?_
          refine vx_iconst (n := 4) (q := 86) (by decide +kernel) ?_
          refine vx_iload_n (n := 1) (q := 87) (by decide +kernel) rfl ?_
          refine vx_imul (q := 88) (by decide +kernel) ?_
          refine vx_iload_n (n := 3) (q := 89) (by decide +kernel) rfl ?_
          refine vx_iadd (q := 90) (by decide +kernel) ?_
          obtain ⟨k14, H⟩ := H
          refine vx_laload (z := 1040) (q := 91) (by decide +kernel) (vx_Tk hT13 (by decide +kernel)) (vx_Tz hT13 (by decide +kernel)) (vx_ix k14 (by decide)) ?_
          refine vx_lc_eq (off := 5) (p := 92) (q := 95) (t := 97) (by decide +kernel) hr13 (vx_rL_K h13 652 ((4 * v1) + v3).toNat) (fun c15 => ?_) (fun c15 => ?_)
          · replace H := H.1 c15
            refine vx_iinc (n := 3) (m := 1) (x := v3) (q := 100) (lv' := [some (.ref 625), some (.int (vx_i v1)), some (.int (vx_i v2)), some (.int (vx_i (v3 + 1))), some (.int (vx_i (vx_J h 645 ((4 * v2) + v3).toNat)))]) (by decide +kernel) rfl rfl ?_
            refine vx_goto (off := (-81)) (q := 103) (t := 19) (by decide +kernel) ?_
            exact H
          · replace H := H.2 c15
            refine vx_iconst (n := 0) (q := 96) (by decide +kernel) ?_
            refine vx_retZ (q := 97) (by decide +kernel) (Or.inl rfl) ?_
            exact H
        · replace H := H.2 c12
          refine vx_goto (off := 25) (q := 75) (t := 97) (by decide +kernel) ?_
          refine vx_iinc (n := 3) (m := 1) (x := v3) (q := 100) (lv' := [some (.ref 625), some (.int (vx_i v1)), some (.int (vx_i v2)), some (.int (vx_i (v3 + 1))), some (.int (vx_i (vx_J h 645 ((4 * v2) + v3).toNat)))]) (by decide +kernel) rfl rfl ?_
          refine vx_goto (off := (-81)) (q := 103) (t := 19) (by decide +kernel) ?_
          exact H
-- RuleHouseModel.take(II)Z
theorem vg_71 {d : Nat} {h : ve_H} {P : Int → ve_H → Prop} {x1 : Int} {x2 : Int} (hT : vx_T 625 672 h) (H : vx_W d 71 2 [some (.ref 625), some (.int (vx_i x1)), some (.int (vx_i x2)), some (.int (vx_i 0)), none] [] h (vx_RI P)) : vx_CI d 71 [.ref 625, .int (vx_i x1), .int (vx_i x2)] h P := by
  refine vx_enter (ml := 5) (by decide +kernel) ?_
  show vx_W _ _ 0 [some (.ref 625), some (.int (vx_i x1)), some (.int (vx_i x2)), none, none] [] h _
  refine vx_iconst (n := 0) (q := 1) (by decide +kernel) ?_
  refine vx_istore_n (n := 3) (q := 2) (lv' := [some (.ref 625), some (.int (vx_i x1)), some (.int (vx_i x2)), some (.int (vx_i 0)), none]) (by decide +kernel) rfl ?_
  exact H
theorem vg_71_2 {d : Nat} {h : ve_H} {P : Int → ve_H → Prop} {v1 : Int} {v2 : Int} {v3 : Int} {v4 : Option Value} (hT : vx_T 625 672 h) (H : (0 ≤ v2 ∧ v2 < 366) ∧ (vx_rI v3) ∧ (((vx_J h 661 v2.toNat) ≤ v3 → P 1 h) ∧ (v3 < (vx_J h 661 v2.toNat) → (0 ≤ ((4 * v2) + v3) ∧ ((4 * v2) + v3) < 1464) ∧ (((vx_J h 645 ((4 * v2) + v3).toNat) = 1 → (0 ≤ ((4 * v2) + v3) ∧ ((4 * v2) + v3) < 1464) ∧ (0 ≤ (vx_K h 646 ((4 * v2) + v3).toNat) ∧ (vx_K h 646 ((4 * v2) + v3).toNat) < 9) ∧ (((vx_J h 664 (vx_K h 646 ((4 * v2) + v3).toNat).toNat) = 0 → (0 ≤ (vx_K h 646 ((4 * v2) + v3).toNat) ∧ (vx_K h 646 ((4 * v2) + v3).toNat) < 9) ∧ (∀ h10, h10 = vx_sJ h 664 (vx_K h 646 ((4 * v2) + v3).toNat).toNat 1 → vx_T 625 672 h10 → (0 ≤ ((4 * v1) + v3) ∧ ((4 * v1) + v3) < 1040) ∧ (0 ≤ (vx_K h 646 ((4 * v2) + v3).toNat) ∧ (vx_K h 646 ((4 * v2) + v3).toNat) < 9) ∧ (∀ h13, h13 = vx_sK h10 665 (vx_K h 646 ((4 * v2) + v3).toNat).toNat (vx_K h10 652 ((4 * v1) + v3).toNat) → vx_T 625 672 h13 → vx_W d 71 2 [some (.ref 625), some (.int (vx_i v1)), some (.int (vx_i v2)), some (.int (vx_i (v3 + 1))), some (.int (vx_i (vx_K h 646 ((4 * v2) + v3).toNat)))] [] h13 (vx_RI P)))) ∧ ((vx_J h 664 (vx_K h 646 ((4 * v2) + v3).toNat).toNat) ≠ 0 → (0 ≤ (vx_K h 646 ((4 * v2) + v3).toNat) ∧ (vx_K h 646 ((4 * v2) + v3).toNat) < 9) ∧ (0 ≤ ((4 * v1) + v3) ∧ ((4 * v1) + v3) < 1040) ∧ (((vx_K h 665 (vx_K h 646 ((4 * v2) + v3).toNat).toNat) = (vx_K h 652 ((4 * v1) + v3).toNat) → (0 ≤ (vx_K h 646 ((4 * v2) + v3).toNat) ∧ (vx_K h 646 ((4 * v2) + v3).toNat) < 9) ∧ (∀ h18, h18 = vx_sJ h 664 (vx_K h 646 ((4 * v2) + v3).toNat).toNat 1 → vx_T 625 672 h18 → (0 ≤ ((4 * v1) + v3) ∧ ((4 * v1) + v3) < 1040) ∧ (0 ≤ (vx_K h 646 ((4 * v2) + v3).toNat) ∧ (vx_K h 646 ((4 * v2) + v3).toNat) < 9) ∧ (∀ h21, h21 = vx_sK h18 665 (vx_K h 646 ((4 * v2) + v3).toNat).toNat (vx_K h18 652 ((4 * v1) + v3).toNat) → vx_T 625 672 h21 → vx_W d 71 2 [some (.ref 625), some (.int (vx_i v1)), some (.int (vx_i v2)), some (.int (vx_i (v3 + 1))), some (.int (vx_i (vx_K h 646 ((4 * v2) + v3).toNat)))] [] h21 (vx_RI P)))) ∧ ((vx_K h 665 (vx_K h 646 ((4 * v2) + v3).toNat).toNat) ≠ (vx_K h 652 ((4 * v1) + v3).toNat) → P 0 h))))) ∧ ((vx_J h 645 ((4 * v2) + v3).toNat) ≠ 1 → vx_W d 71 2 [some (.ref 625), some (.int (vx_i v1)), some (.int (vx_i v2)), some (.int (vx_i (v3 + 1))), v4] [] h (vx_RI P)))))) : vx_W d 71 2 [some (.ref 625), some (.int (vx_i v1)), some (.int (vx_i v2)), some (.int (vx_i v3)), v4] [] h (vx_RI P) := by
  refine vx_iload_n (n := 3) (q := 3) (by decide +kernel) rfl ?_
  refine vx_aload_n (n := 0) (q := 4) (by decide +kernel) rfl ?_
  refine vx_getR (b := 661) (idx := 121) (kd := 9) (s := 60) (fin := true) (q := 7) (by decide +kernel) (vx_Tk hT (by decide +kernel)) (vx_Tr hT (kd := 9) (by decide +kernel) (by decide +kernel) (by decide +kernel)) ?_
  refine vx_iload_n (n := 2) (q := 8) (by decide +kernel) rfl ?_
  obtain ⟨k1, H⟩ := H
  refine vx_iaload (z := 366) (q := 9) (by decide +kernel) (vx_Tk hT (by decide +kernel)) (vx_Tz hT (by decide +kernel)) (vx_ix k1 (by decide)) ?_
  obtain ⟨k2, H⟩ := H
  refine vx_icmp_ge (off := 97) (q := 12) (t := 106) (by decide +kernel) k2 (vx_rI_J h 661 v2.toNat) (fun c3 => ?_) (fun c3 => ?_)
  · replace H := H.1 c3
    refine vx_iconst (n := 1) (q := 107) (by decide +kernel) ?_
    refine vx_retZ (q := 108) (by decide +kernel) (Or.inr rfl) ?_
    exact H
  · replace H := H.2 c3
    refine vx_aload_n (n := 0) (q := 13) (by decide +kernel) rfl ?_
    refine vx_getR (b := 645) (idx := 68) (kd := 9) (s := 26) (fin := true) (q := 16) (by decide +kernel) (vx_Tk hT (by decide +kernel)) (vx_Tr hT (kd := 9) (by decide +kernel) (by decide +kernel) (by decide +kernel)) ?_
    refine vx_iconst (n := 4) (q := 17) (by decide +kernel) ?_
    refine vx_iload_n (n := 2) (q := 18) (by decide +kernel) rfl ?_
    refine vx_imul (q := 19) (by decide +kernel) ?_
    refine vx_iload_n (n := 3) (q := 20) (by decide +kernel) rfl ?_
    refine vx_iadd (q := 21) (by decide +kernel) ?_
    obtain ⟨k4, H⟩ := H
    refine vx_iaload (z := 1464) (q := 22) (by decide +kernel) (vx_Tk hT (by decide +kernel)) (vx_Tz hT (by decide +kernel)) (vx_ix k4 (by decide)) ?_
    refine vx_iconst (n := 1) (q := 23) (by decide +kernel) ?_
    refine vx_icmp_eq (off := 6) (q := 26) (t := 29) (by decide +kernel) (vx_rI_J h 645 ((4 * v2) + v3).toNat) (by decide) (fun c5 => ?_) (fun c5 => ?_)
    · replace H := H.1 c5
      refine vx_aload_n (n := 0) (q := 30) (by decide +kernel) rfl ?_
      refine vx_getR (b := 646) (idx := 71) (kd := 9) (s := 27) (fin := true) (q := 33) (by decide +kernel) (vx_Tk hT (by decide +kernel)) (vx_Tr hT (kd := 9) (by decide +kernel) (by decide +kernel) (by decide +kernel)) ?_
      refine vx_iconst (n := 4) (q := 34) (by decide +kernel) ?_
      refine vx_iload_n (n := 2) (q := 35) (by decide +kernel) rfl ?_
      refine vx_imul (q := 36) (by decide +kernel) ?_
      refine vx_iload_n (n := 3) (q := 37) (by decide +kernel) rfl ?_
      refine vx_iadd (q := 38) (by decide +kernel) ?_
      obtain ⟨k6, H⟩ := H
      refine vx_laload (z := 1464) (q := 39) (by decide +kernel) (vx_Tk hT (by decide +kernel)) (vx_Tz hT (by decide +kernel)) (vx_ix k6 (by decide)) ?_
      refine vx_l2i (q := 40) (by decide +kernel) ?_
      refine vx_istore (n := 4) (q := 42) (lv' := [some (.ref 625), some (.int (vx_i v1)), some (.int (vx_i v2)), some (.int (vx_i v3)), some (.int (vx_i (vx_K h 646 ((4 * v2) + v3).toNat)))]) (by decide +kernel) rfl ?_
      refine vx_aload_n (n := 0) (q := 43) (by decide +kernel) rfl ?_
      refine vx_getR (b := 664) (idx := 130) (kd := 9) (s := 63) (fin := true) (q := 46) (by decide +kernel) (vx_Tk hT (by decide +kernel)) (vx_Tr hT (kd := 9) (by decide +kernel) (by decide +kernel) (by decide +kernel)) ?_
      refine vx_iload (n := 4) (q := 48) (by decide +kernel) rfl ?_
      obtain ⟨k7, H⟩ := H
      refine vx_zaload (z := 9) (q := 49) (by decide +kernel) (vx_Tk hT (by decide +kernel)) (vx_Tz hT (by decide +kernel)) (vx_ix k7 (by decide)) ?_
      refine vx_if0_eq (off := 26) (q := 52) (t := 75) (by decide +kernel) (vx_rI_J h 664 (vx_K h 646 ((4 * v2) + v3).toNat).toNat) (fun c8 => ?_) (fun c8 => ?_)
      · replace H := H.1 c8
        refine vx_aload_n (n := 0) (q := 76) (by decide +kernel) rfl ?_
        refine vx_getR (b := 664) (idx := 130) (kd := 9) (s := 63) (fin := true) (q := 79) (by decide +kernel) (vx_Tk hT (by decide +kernel)) (vx_Tr hT (kd := 9) (by decide +kernel) (by decide +kernel) (by decide +kernel)) ?_
        refine vx_iload (n := 4) (q := 81) (by decide +kernel) rfl ?_
        refine vx_iconst (n := 1) (q := 82) (by decide +kernel) ?_
        obtain ⟨k9, H⟩ := H
        refine vx_zastore (z := 9) (q := 83) (by decide +kernel) (vx_Tk hT (by decide +kernel)) (vx_Tz hT (by decide +kernel)) (vx_ix k9 (by decide)) (Or.inr rfl) (fun h10 e10 => ?_)
        have hT10 := vx_TJ hT e10
        replace H := H h10 e10 hT10
        refine vx_aload_n (n := 0) (q := 84) (by decide +kernel) rfl ?_
        refine vx_getR (b := 665) (idx := 133) (kd := 9) (s := 64) (fin := true) (q := 87) (by decide +kernel) (vx_Tk hT10 (by decide +kernel)) (vx_Tr hT10 (kd := 9) (by decide +kernel) (by decide +kernel) (by decide +kernel)) ?_
        refine vx_iload (n := 4) (q := 89) (by decide +kernel) rfl ?_
        refine vx_aload_n (n := 0) (q := 90) (by decide +kernel) rfl ?_
        refine vx_getR (b := 652) (idx := 93) (kd := 9) (s := 35) (fin := true) (q := 93) (by decide +kernel) (vx_Tk hT10 (by decide +kernel)) (vx_Tr hT10 (kd := 9) (by decide +kernel) (by decide +kernel) (by decide +kernel)) ?_
        refine vx_iconst (n := 4) (q := 94) (by decide +kernel) ?_
        refine vx_iload_n (n := 1) (q := 95) (by decide +kernel) rfl ?_
        refine vx_imul (q := 96) (by decide +kernel) ?_
        refine vx_iload_n (n := 3) (q := 97) (by decide +kernel) rfl ?_
        refine vx_iadd (q := 98) (by decide +kernel) ?_
        obtain ⟨k11, H⟩ := H
        refine vx_laload (z := 1040) (q := 99) (by decide +kernel) (vx_Tk hT10 (by decide +kernel)) (vx_Tz hT10 (by decide +kernel)) (vx_ix k11 (by decide)) ?_
        obtain ⟨k12, H⟩ := H
        refine vx_lastore (z := 9) (q := 100) (by decide +kernel) (vx_Tk hT10 (by decide +kernel)) (vx_Tz hT10 (by decide +kernel)) (vx_ix k12 (by decide)) (fun h13 e13 => ?_)
        have hT13 := vx_TK hT10 e13
        replace H := H h13 e13 hT13
        refine vx_iinc (n := 3) (m := 1) (x := v3) (q := 103) (lv' := [some (.ref 625), some (.int (vx_i v1)), some (.int (vx_i v2)), some (.int (vx_i (v3 + 1))), some (.int (vx_i (vx_K h 646 ((4 * v2) + v3).toNat)))]) (by decide +kernel) rfl rfl ?_
        refine vx_goto (off := (-101)) (q := 106) (t := 2) (by decide +kernel) ?_
        exact H
      · replace H := H.2 c8
        refine vx_aload_n (n := 0) (q := 53) (by decide +kernel) rfl ?_
        refine vx_getR (b := 665) (idx := 133) (kd := 9) (s := 64) (fin := true) (q := 56) (by decide +kernel) (vx_Tk hT (by decide +kernel)) (vx_Tr hT (kd := 9) (by decide +kernel) (by decide +kernel) (by decide +kernel)) ?_
        refine vx_iload (n := 4) (q := 58) (by decide +kernel) rfl ?_
        obtain ⟨k14, H⟩ := H
        refine vx_laload (z := 9) (q := 59) (by decide +kernel) (vx_Tk hT (by decide +kernel)) (vx_Tz hT (by decide +kernel)) (vx_ix k14 (by decide)) ?_
        refine vx_aload_n (n := 0) (q := 60) (by decide +kernel) rfl ?_
        refine vx_getR (b := 652) (idx := 93) (kd := 9) (s := 35) (fin := true) (q := 63) (by decide +kernel) (vx_Tk hT (by decide +kernel)) (vx_Tr hT (kd := 9) (by decide +kernel) (by decide +kernel) (by decide +kernel)) ?_
        refine vx_iconst (n := 4) (q := 64) (by decide +kernel) ?_
        refine vx_iload_n (n := 1) (q := 65) (by decide +kernel) rfl ?_
        refine vx_imul (q := 66) (by decide +kernel) ?_
        refine vx_iload_n (n := 3) (q := 67) (by decide +kernel) rfl ?_
        refine vx_iadd (q := 68) (by decide +kernel) ?_
        obtain ⟨k15, H⟩ := H
        refine vx_laload (z := 1040) (q := 69) (by decide +kernel) (vx_Tk hT (by decide +kernel)) (vx_Tz hT (by decide +kernel)) (vx_ix k15 (by decide)) ?_
        refine vx_lc_eq (off := 5) (p := 70) (q := 73) (t := 75) (by decide +kernel) (vx_rL_K h 665 (vx_K h 646 ((4 * v2) + v3).toNat).toNat) (vx_rL_K h 652 ((4 * v1) + v3).toNat) (fun c16 => ?_) (fun c16 => ?_)
        · replace H := H.1 c16
          refine vx_aload_n (n := 0) (q := 76) (by decide +kernel) rfl ?_
          refine vx_getR (b := 664) (idx := 130) (kd := 9) (s := 63) (fin := true) (q := 79) (by decide +kernel) (vx_Tk hT (by decide +kernel)) (vx_Tr hT (kd := 9) (by decide +kernel) (by decide +kernel) (by decide +kernel)) ?_
          refine vx_iload (n := 4) (q := 81) (by decide +kernel) rfl ?_
          refine vx_iconst (n := 1) (q := 82) (by decide +kernel) ?_
          obtain ⟨k17, H⟩ := H
          refine vx_zastore (z := 9) (q := 83) (by decide +kernel) (vx_Tk hT (by decide +kernel)) (vx_Tz hT (by decide +kernel)) (vx_ix k17 (by decide)) (Or.inr rfl) (fun h18 e18 => ?_)
          have hT18 := vx_TJ hT e18
          replace H := H h18 e18 hT18
          refine vx_aload_n (n := 0) (q := 84) (by decide +kernel) rfl ?_
          refine vx_getR (b := 665) (idx := 133) (kd := 9) (s := 64) (fin := true) (q := 87) (by decide +kernel) (vx_Tk hT18 (by decide +kernel)) (vx_Tr hT18 (kd := 9) (by decide +kernel) (by decide +kernel) (by decide +kernel)) ?_
          refine vx_iload (n := 4) (q := 89) (by decide +kernel) rfl ?_
          refine vx_aload_n (n := 0) (q := 90) (by decide +kernel) rfl ?_
          refine vx_getR (b := 652) (idx := 93) (kd := 9) (s := 35) (fin := true) (q := 93) (by decide +kernel) (vx_Tk hT18 (by decide +kernel)) (vx_Tr hT18 (kd := 9) (by decide +kernel) (by decide +kernel) (by decide +kernel)) ?_
          refine vx_iconst (n := 4) (q := 94) (by decide +kernel) ?_
          refine vx_iload_n (n := 1) (q := 95) (by decide +kernel) rfl ?_
          refine vx_imul (q := 96) (by decide +kernel) ?_
          refine vx_iload_n (n := 3) (q := 97) (by decide +kernel) rfl ?_
          refine vx_iadd (q := 98) (by decide +kernel) ?_
          obtain ⟨k19, H⟩ := H
          refine vx_laload (z := 1040) (q := 99) (by decide +kernel) (vx_Tk hT18 (by decide +kernel)) (vx_Tz hT18 (by decide +kernel)) (vx_ix k19 (by decide)) ?_
          obtain ⟨k20, H⟩ := H
          refine vx_lastore (z := 9) (q := 100) (by decide +kernel) (vx_Tk hT18 (by decide +kernel)) (vx_Tz hT18 (by decide +kernel)) (vx_ix k20 (by decide)) (fun h21 e21 => ?_)
          have hT21 := vx_TK hT18 e21
          replace H := H h21 e21 hT21
          refine vx_iinc (n := 3) (m := 1) (x := v3) (q := 103) (lv' := [some (.ref 625), some (.int (vx_i v1)), some (.int (vx_i v2)), some (.int (vx_i (v3 + 1))), some (.int (vx_i (vx_K h 646 ((4 * v2) + v3).toNat)))]) (by decide +kernel) rfl rfl ?_
          refine vx_goto (off := (-101)) (q := 106) (t := 2) (by decide +kernel) ?_
          exact H
        · replace H := H.2 c16
          refine vx_iconst (n := 0) (q := 74) (by decide +kernel) ?_
          refine vx_retZ (q := 75) (by decide +kernel) (Or.inl rfl) ?_
          exact H
    · replace H := H.2 c5
      refine vx_goto (off := 74) (q := 29) (t := 100) (by decide +kernel) ?_
      refine vx_iinc (n := 3) (m := 1) (x := v3) (q := 103) (lv' := [some (.ref 625), some (.int (vx_i v1)), some (.int (vx_i v2)), some (.int (vx_i (v3 + 1))), v4]) (by decide +kernel) rfl rfl ?_
      refine vx_goto (off := (-101)) (q := 106) (t := 2) (by decide +kernel) ?_
      exact H
-- RuleHouseModel.holdsRelation(I)Z
theorem vg_72 {d : Nat} {h : ve_H} {P : Int → ve_H → Prop} {x1 : Int} (hT : vx_T 625 672 h) (H : vx_CL d 69 [.ref 625, .int (vx_i x1), .int (vx_i 0)] h (fun r1 h1 => vx_T 625 672 h1 → vx_CL d 69 [.ref 625, .int (vx_i x1), .int (vx_i 1)] h1 (fun r2 h2 => vx_T 625 672 h2 → vx_CI d 67 [.long (vx_l r1), .long (vx_l r2)] h2 (fun r3 h3 => vx_T 625 672 h3 → (0 ≤ x1 ∧ x1 < 366) ∧ (((vx_J h3 644 x1.toNat) = 60 → ((0 ≤ r3 → P 0 h3) ∧ (r3 < 0 → P 1 h3))) ∧ ((vx_J h3 644 x1.toNat) = 61 → ((r1 ≠ r2 → P 0 h3) ∧ (r1 = r2 → P 1 h3))) ∧ ((vx_J h3 644 x1.toNat) = 62 → ((r3 ≤ 0 → P 0 h3) ∧ (0 < r3 → P 1 h3))) ∧ ((vx_J h3 644 x1.toNat) = 301 → ((r1 = r2 → P 0 h3) ∧ (r1 ≠ r2 → P 1 h3))) ∧ ((vx_J h3 644 x1.toNat) = 302 → ((0 < r3 → P 0 h3) ∧ (r3 ≤ 0 → P 1 h3))) ∧ ((vx_J h3 644 x1.toNat) ≠ 60 ∧ (vx_J h3 644 x1.toNat) ≠ 61 ∧ (vx_J h3 644 x1.toNat) ≠ 62 ∧ (vx_J h3 644 x1.toNat) ≠ 301 ∧ (vx_J h3 644 x1.toNat) ≠ 302 ∧ True → ((r3 < 0 → P 0 h3) ∧ (0 ≤ r3 → P 1 h3)))))))) : vx_CI (d + 1) 72 [.ref 625, .int (vx_i x1)] h P := by
  refine vx_enter (ml := 7) (by decide +kernel) ?_
  show vx_W _ _ 0 [some (.ref 625), some (.int (vx_i x1)), none, none, none, none, none] [] h _
  refine vx_aload_n (n := 0) (q := 1) (by decide +kernel) rfl ?_
  refine vx_iload_n (n := 1) (q := 2) (by decide +kernel) rfl ?_
  refine vx_iconst (n := 0) (q := 3) (by decide +kernel) ?_
  refine vx_callL (i := .invokevirtual 371) (how := 3) (cm := 69) (np := 3) (q := 6) (args := [.ref 625, .int (vx_i x1), .int (vx_i 0)]) (rest := []) (by decide +kernel) rfl rfl rfl (vx_w2 (w := 3) (ml := 3) rfl (by decide +kernel)) (vx_rcv (kd := 9) (vx_Tk hT (by decide +kernel)) (by decide +kernel)) H (fun r1 h1 hr1 hs1 H => ?_)
  have hT1 := vx_Tsh hT hs1
  replace H := H hT1
  refine vx_lstore_n (n := 2) (q := 7) (lv' := [some (.ref 625), some (.int (vx_i x1)), some (.long (vx_l r1)), none, none, none, none]) (by decide +kernel) rfl ?_
  refine vx_aload_n (n := 0) (q := 8) (by decide +kernel) rfl ?_
  refine vx_iload_n (n := 1) (q := 9) (by decide +kernel) rfl ?_
  refine vx_iconst (n := 1) (q := 10) (by decide +kernel) ?_
  refine vx_callL (i := .invokevirtual 371) (how := 3) (cm := 69) (np := 3) (q := 13) (args := [.ref 625, .int (vx_i x1), .int (vx_i 1)]) (rest := []) (by decide +kernel) rfl rfl rfl (vx_w2 (w := 3) (ml := 3) rfl (by decide +kernel)) (vx_rcv (kd := 9) (vx_Tk hT1 (by decide +kernel)) (by decide +kernel)) H (fun r2 h2 hr2 hs2 H => ?_)
  have hT2 := vx_Tsh hT1 hs2
  replace H := H hT2
  refine vx_lstore (n := 4) (q := 15) (lv' := [some (.ref 625), some (.int (vx_i x1)), some (.long (vx_l r1)), none, some (.long (vx_l r2)), none, none]) (by decide +kernel) rfl ?_
  refine vx_lload_n (n := 2) (q := 16) (by decide +kernel) rfl ?_
  refine vx_lload (n := 4) (q := 18) (by decide +kernel) rfl ?_
  refine vx_callI (i := .invokestatic 375) (how := 4) (cm := 67) (np := 2) (q := 21) (args := [.long (vx_l r1), .long (vx_l r2)]) (rest := []) (by decide +kernel) rfl rfl rfl (vx_w2 (w := 4) (ml := 8) rfl (by decide +kernel)) rfl H (fun r3 h3 hr3 hs3 H => ?_)
  have hT3 := vx_Tsh hT2 hs3
  replace H := H hT3
  refine vx_istore (n := 6) (q := 23) (lv' := [some (.ref 625), some (.int (vx_i x1)), some (.long (vx_l r1)), none, some (.long (vx_l r2)), none, some (.int (vx_i r3))]) (by decide +kernel) rfl ?_
  refine vx_aload_n (n := 0) (q := 24) (by decide +kernel) rfl ?_
  refine vx_getR (b := 644) (idx := 65) (kd := 9) (s := 25) (fin := true) (q := 27) (by decide +kernel) (vx_Tk hT3 (by decide +kernel)) (vx_Tr hT3 (kd := 9) (by decide +kernel) (by decide +kernel) (by decide +kernel)) ?_
  refine vx_iload_n (n := 1) (q := 28) (by decide +kernel) rfl ?_
  obtain ⟨k4, H⟩ := H
  refine vx_iaload (z := 366) (q := 29) (by decide +kernel) (vx_Tk hT3 (by decide +kernel)) (vx_Tz hT3 (by decide +kernel)) (vx_ix k4 (by decide)) ?_
  refine vx_lsw (dd := 110) (ps := #[(60, 77), (61, 51), (62, 99), (301, 64), (302, 88)]) (tl := [(60, 106), (61, 80), (62, 128), (301, 93), (302, 117)]) (td := 139) (q := 80) (by decide +kernel) (vx_rI_J h3 644 x1.toNat) ⟨fun c5 => ?_, fun c5 => ?_, fun c5 => ?_, fun c5 => ?_, fun c5 => ?_, trivial⟩ (fun c5 => ?_)
  · replace H := H.1 c5
    refine vx_iload (n := 6) (q := 108) (by decide +kernel) rfl ?_
    refine vx_if0_ge (off := 7) (q := 111) (t := 115) (by decide +kernel) hr3 (fun c6 => ?_) (fun c6 => ?_)
    · replace H := H.1 c6
      refine vx_iconst (n := 0) (q := 116) (by decide +kernel) ?_
      refine vx_retZ (q := 117) (by decide +kernel) (Or.inl rfl) ?_
      exact H
    · replace H := H.2 c6
      refine vx_iconst (n := 1) (q := 112) (by decide +kernel) ?_
      refine vx_goto (off := 4) (q := 115) (t := 116) (by decide +kernel) ?_
      refine vx_retZ (q := 117) (by decide +kernel) (Or.inr rfl) ?_
      exact H
  · replace H := H.2.1 c5
    refine vx_lload_n (n := 2) (q := 81) (by decide +kernel) rfl ?_
    refine vx_lload (n := 4) (q := 83) (by decide +kernel) rfl ?_
    refine vx_lc_ne (off := 7) (p := 84) (q := 87) (t := 91) (by decide +kernel) hr1 hr2 (fun c7 => ?_) (fun c7 => ?_)
    · replace H := H.1 c7
      refine vx_iconst (n := 0) (q := 92) (by decide +kernel) ?_
      refine vx_retZ (q := 93) (by decide +kernel) (Or.inl rfl) ?_
      exact H
    · replace H := H.2 c7
      refine vx_iconst (n := 1) (q := 88) (by decide +kernel) ?_
      refine vx_goto (off := 4) (q := 91) (t := 92) (by decide +kernel) ?_
      refine vx_retZ (q := 93) (by decide +kernel) (Or.inr rfl) ?_
      exact H
  · replace H := H.2.2.1 c5
    refine vx_iload (n := 6) (q := 130) (by decide +kernel) rfl ?_
    refine vx_if0_le (off := 7) (q := 133) (t := 137) (by decide +kernel) hr3 (fun c8 => ?_) (fun c8 => ?_)
    · replace H := H.1 c8
      refine vx_iconst (n := 0) (q := 138) (by decide +kernel) ?_
      refine vx_retZ (q := 139) (by decide +kernel) (Or.inl rfl) ?_
      exact H
    · replace H := H.2 c8
      refine vx_iconst (n := 1) (q := 134) (by decide +kernel) ?_
      refine vx_goto (off := 4) (q := 137) (t := 138) (by decide +kernel) ?_
      refine vx_retZ (q := 139) (by decide +kernel) (Or.inr rfl) ?_
      exact H
  · replace H := H.2.2.2.1 c5
    refine vx_lload_n (n := 2) (q := 94) (by decide +kernel) rfl ?_
    refine vx_lload (n := 4) (q := 96) (by decide +kernel) rfl ?_
    refine vx_lc_eq (off := 7) (p := 97) (q := 100) (t := 104) (by decide +kernel) hr1 hr2 (fun c9 => ?_) (fun c9 => ?_)
    · replace H := H.1 c9
      refine vx_iconst (n := 0) (q := 105) (by decide +kernel) ?_
      refine vx_retZ (q := 106) (by decide +kernel) (Or.inl rfl) ?_
      exact H
    · replace H := H.2 c9
      refine vx_iconst (n := 1) (q := 101) (by decide +kernel) ?_
      refine vx_goto (off := 4) (q := 104) (t := 105) (by decide +kernel) ?_
      refine vx_retZ (q := 106) (by decide +kernel) (Or.inr rfl) ?_
      exact H
  · replace H := H.2.2.2.2.1 c5
    refine vx_iload (n := 6) (q := 119) (by decide +kernel) rfl ?_
    refine vx_if0_gt (off := 7) (q := 122) (t := 126) (by decide +kernel) hr3 (fun c10 => ?_) (fun c10 => ?_)
    · replace H := H.1 c10
      refine vx_iconst (n := 0) (q := 127) (by decide +kernel) ?_
      refine vx_retZ (q := 128) (by decide +kernel) (Or.inl rfl) ?_
      exact H
    · replace H := H.2 c10
      refine vx_iconst (n := 1) (q := 123) (by decide +kernel) ?_
      refine vx_goto (off := 4) (q := 126) (t := 127) (by decide +kernel) ?_
      refine vx_retZ (q := 128) (by decide +kernel) (Or.inr rfl) ?_
      exact H
  · replace H := H.2.2.2.2.2 c5
    refine vx_iload (n := 6) (q := 141) (by decide +kernel) rfl ?_
    refine vx_if0_lt (off := 7) (q := 144) (t := 148) (by decide +kernel) hr3 (fun c11 => ?_) (fun c11 => ?_)
    · replace H := H.1 c11
      refine vx_iconst (n := 0) (q := 149) (by decide +kernel) ?_
      refine vx_retZ (q := 150) (by decide +kernel) (Or.inl rfl) ?_
      exact H
    · replace H := H.2 c11
      refine vx_iconst (n := 1) (q := 145) (by decide +kernel) ?_
      refine vx_goto (off := 4) (q := 148) (t := 149) (by decide +kernel) ?_
      refine vx_retZ (q := 150) (by decide +kernel) (Or.inr rfl) ?_
      exact H
-- RuleHouseModel.reckon(I)Z
theorem vg_73 {d : Nat} {h : ve_H} {P : Int → ve_H → Prop} {x1 : Int} (hT : vx_T 625 672 h) (H : vx_CL d 69 [.ref 625, .int (vx_i x1), .int (vx_i 1)] h (fun r1 h1 => vx_T 625 672 h1 → vx_CL d 69 [.ref 625, .int (vx_i x1), .int (vx_i 2)] h1 (fun r2 h2 => vx_T 625 672 h2 → vx_CI d 66 [.long (vx_l r1)] h2 (fun r3 h3 => vx_T 625 672 h3 → ((r3 ≠ 0 → P 0 h3) ∧ (r3 = 0 → vx_CI d 66 [.long (vx_l r2)] h3 (fun r5 h5 => vx_T 625 672 h5 → ((r5 = 0 → (0 ≤ x1 ∧ x1 < 366) ∧ (((vx_J h5 644 x1.toNat) = 42 → (vx_rI (r1 * r2)) ∧ (∀ h10, h10 = vx_sK h5 625 69 (r1 * r2) → vx_T 625 672 h10 → P 1 h10)) ∧ ((vx_J h5 644 x1.toNat) = 43 → (vx_rI (r1 + r2)) ∧ (∀ h12, h12 = vx_sK h5 625 69 (r1 + r2) → vx_T 625 672 h12 → P 1 h12)) ∧ ((vx_J h5 644 x1.toNat) = 45 → (vx_rI (r1 - r2)) ∧ (∀ h14, h14 = vx_sK h5 625 69 (r1 - r2) → vx_T 625 672 h14 → P 1 h14)) ∧ ((vx_J h5 644 x1.toNat) ≠ 42 ∧ (vx_J h5 644 x1.toNat) ≠ 43 ∧ (vx_J h5 644 x1.toNat) ≠ 45 ∧ True → (vx_rI r2) ∧ ((r2 ≠ 0 → ((r2 ≠ ((-1)) → (0 ≤ x1 ∧ x1 < 366) ∧ (((vx_J h5 644 x1.toNat) ≠ 47 → (vx_rI r2 ∧ r2 ≠ 0) ∧ (∀ h21, h21 = vx_sK h5 625 69 (vx_rem r1 r2) → vx_T 625 672 h21 → P 1 h21)) ∧ ((vx_J h5 644 x1.toNat) = 47 → (vx_rI r2 ∧ r2 ≠ 0) ∧ (∀ h23, h23 = vx_sK h5 625 69 (vx_div r1 r2) → vx_T 625 672 h23 → P 1 h23)))) ∧ (r2 = ((-1)) → (0 ≤ x1 ∧ x1 < 366) ∧ (((vx_J h5 644 x1.toNat) ≠ 47 → (∀ h26, h26 = vx_sK h5 625 69 0 → vx_T 625 672 h26 → P 1 h26)) ∧ ((vx_J h5 644 x1.toNat) = 47 → (vx_rI (-r1)) ∧ (∀ h28, h28 = vx_sK h5 625 69 (-r1) → vx_T 625 672 h28 → P 1 h28)))))) ∧ (r2 = 0 → P 0 h5))))) ∧ (r5 ≠ 0 → P 0 h5))))))))) : vx_CI (d + 1) 73 [.ref 625, .int (vx_i x1)] h P := by
  refine vx_enter (ml := 8) (by decide +kernel) ?_
  show vx_W _ _ 0 [some (.ref 625), some (.int (vx_i x1)), none, none, none, none, none, none] [] h _
  refine vx_aload_n (n := 0) (q := 1) (by decide +kernel) rfl ?_
  refine vx_iload_n (n := 1) (q := 2) (by decide +kernel) rfl ?_
  refine vx_iconst (n := 1) (q := 3) (by decide +kernel) ?_
  refine vx_callL (i := .invokevirtual 371) (how := 3) (cm := 69) (np := 3) (q := 6) (args := [.ref 625, .int (vx_i x1), .int (vx_i 1)]) (rest := []) (by decide +kernel) rfl rfl rfl (vx_w2 (w := 3) (ml := 3) rfl (by decide +kernel)) (vx_rcv (kd := 9) (vx_Tk hT (by decide +kernel)) (by decide +kernel)) H (fun r1 h1 hr1 hs1 H => ?_)
  have hT1 := vx_Tsh hT hs1
  replace H := H hT1
  refine vx_lstore_n (n := 2) (q := 7) (lv' := [some (.ref 625), some (.int (vx_i x1)), some (.long (vx_l r1)), none, none, none, none, none]) (by decide +kernel) rfl ?_
  refine vx_aload_n (n := 0) (q := 8) (by decide +kernel) rfl ?_
  refine vx_iload_n (n := 1) (q := 9) (by decide +kernel) rfl ?_
  refine vx_iconst (n := 2) (q := 10) (by decide +kernel) ?_
  refine vx_callL (i := .invokevirtual 371) (how := 3) (cm := 69) (np := 3) (q := 13) (args := [.ref 625, .int (vx_i x1), .int (vx_i 2)]) (rest := []) (by decide +kernel) rfl rfl rfl (vx_w2 (w := 3) (ml := 3) rfl (by decide +kernel)) (vx_rcv (kd := 9) (vx_Tk hT1 (by decide +kernel)) (by decide +kernel)) H (fun r2 h2 hr2 hs2 H => ?_)
  have hT2 := vx_Tsh hT1 hs2
  replace H := H hT2
  refine vx_lstore (n := 4) (q := 15) (lv' := [some (.ref 625), some (.int (vx_i x1)), some (.long (vx_l r1)), none, some (.long (vx_l r2)), none, none, none]) (by decide +kernel) rfl ?_
  refine vx_lload_n (n := 2) (q := 16) (by decide +kernel) rfl ?_
  refine vx_callI (i := .invokestatic 364) (how := 4) (cm := 66) (np := 1) (q := 19) (args := [.long (vx_l r1)]) (rest := []) (by decide +kernel) rfl rfl rfl (vx_w2 (w := 2) (ml := 2) rfl (by decide +kernel)) rfl H (fun r3 h3 hr3 hs3 H => ?_)
  have hT3 := vx_Tsh hT2 hs3
  replace H := H hT3
  refine vx_if0_ne (off := 11) (q := 22) (t := 30) (by decide +kernel) hr3 (fun c4 => ?_) (fun c4 => ?_)
  · replace H := H.1 c4
    refine vx_iconst (n := 0) (q := 31) (by decide +kernel) ?_
    refine vx_retZ (q := 32) (by decide +kernel) (Or.inl rfl) ?_
    exact H
  · replace H := H.2 c4
    refine vx_lload (n := 4) (q := 24) (by decide +kernel) rfl ?_
    refine vx_callI (i := .invokestatic 364) (how := 4) (cm := 66) (np := 1) (q := 27) (args := [.long (vx_l r2)]) (rest := []) (by decide +kernel) rfl rfl rfl (vx_w2 (w := 2) (ml := 2) rfl (by decide +kernel)) rfl H (fun r5 h5 hr5 hs5 H => ?_)
    have hT5 := vx_Tsh hT3 hs5
    replace H := H hT5
    refine vx_if0_eq (off := 5) (q := 30) (t := 32) (by decide +kernel) hr5 (fun c6 => ?_) (fun c6 => ?_)
    · replace H := H.1 c6
      refine vx_lload_n (n := 2) (q := 33) (by decide +kernel) rfl ?_
      refine vx_l2i (q := 34) (by decide +kernel) ?_
      refine vx_istore (n := 6) (q := 36) (lv' := [some (.ref 625), some (.int (vx_i x1)), some (.long (vx_l r1)), none, some (.long (vx_l r2)), none, some (.int (vx_i r1)), none]) (by decide +kernel) rfl ?_
      refine vx_lload (n := 4) (q := 38) (by decide +kernel) rfl ?_
      refine vx_l2i (q := 39) (by decide +kernel) ?_
      refine vx_istore (n := 7) (q := 41) (lv' := [some (.ref 625), some (.int (vx_i x1)), some (.long (vx_l r1)), none, some (.long (vx_l r2)), none, some (.int (vx_i r1)), some (.int (vx_i r2))]) (by decide +kernel) rfl ?_
      refine vx_aload_n (n := 0) (q := 42) (by decide +kernel) rfl ?_
      refine vx_getR (b := 644) (idx := 65) (kd := 9) (s := 25) (fin := true) (q := 45) (by decide +kernel) (vx_Tk hT5 (by decide +kernel)) (vx_Tr hT5 (kd := 9) (by decide +kernel) (by decide +kernel) (by decide +kernel)) ?_
      refine vx_iload_n (n := 1) (q := 46) (by decide +kernel) rfl ?_
      obtain ⟨k7, H⟩ := H
      refine vx_iaload (z := 366) (q := 47) (by decide +kernel) (vx_Tk hT5 (by decide +kernel)) (vx_Tz hT5 (by decide +kernel)) (vx_ix k7 (by decide)) ?_
      refine vx_tsw (dd := 65) (lo := 42) (hi := 45) (offs := #[53, 29, 65, 41]) (tl := [(42, 100), (43, 76), (45, 88)]) (td := 112) (q := 76) (by decide +kernel) (vx_rI_J h5 644 x1.toNat) ⟨fun c8 => ?_, fun c8 => ?_, fun c8 => ?_, trivial⟩ (fun c8 => ?_)
      · replace H := H.1 c8
        refine vx_aload_n (n := 0) (q := 101) (by decide +kernel) rfl ?_
        refine vx_iload (n := 6) (q := 103) (by decide +kernel) rfl ?_
        refine vx_iload (n := 7) (q := 105) (by decide +kernel) rfl ?_
        refine vx_imul (q := 106) (by decide +kernel) ?_
        obtain ⟨k9, H⟩ := H
        refine vx_i2l (q := 107) (by decide +kernel) k9 ?_
        refine vx_putL (idx := 379) (kd := 9) (s := 69) (fin := false) (q := 110) (by decide +kernel) (vx_Tk hT5 (by decide +kernel)) (fun h10 e10 => ?_)
        have hT10 := vx_TK hT5 e10
        replace H := H h10 e10 hT10
        refine vx_iconst (n := 1) (q := 111) (by decide +kernel) ?_
        refine vx_retZ (q := 112) (by decide +kernel) (Or.inr rfl) ?_
        exact H
      · replace H := H.2.1 c8
        refine vx_aload_n (n := 0) (q := 77) (by decide +kernel) rfl ?_
        refine vx_iload (n := 6) (q := 79) (by decide +kernel) rfl ?_
        refine vx_iload (n := 7) (q := 81) (by decide +kernel) rfl ?_
        refine vx_iadd (q := 82) (by decide +kernel) ?_
        obtain ⟨k11, H⟩ := H
        refine vx_i2l (q := 83) (by decide +kernel) k11 ?_
        refine vx_putL (idx := 379) (kd := 9) (s := 69) (fin := false) (q := 86) (by decide +kernel) (vx_Tk hT5 (by decide +kernel)) (fun h12 e12 => ?_)
        have hT12 := vx_TK hT5 e12
        replace H := H h12 e12 hT12
        refine vx_iconst (n := 1) (q := 87) (by decide +kernel) ?_
        refine vx_retZ (q := 88) (by decide +kernel) (Or.inr rfl) ?_
        exact H
      · replace H := H.2.2.1 c8
        refine vx_aload_n (n := 0) (q := 89) (by decide +kernel) rfl ?_
        refine vx_iload (n := 6) (q := 91) (by decide +kernel) rfl ?_
        refine vx_iload (n := 7) (q := 93) (by decide +kernel) rfl ?_
        refine vx_isub (q := 94) (by decide +kernel) ?_
        obtain ⟨k13, H⟩ := H
        refine vx_i2l (q := 95) (by decide +kernel) k13 ?_
        refine vx_putL (idx := 379) (kd := 9) (s := 69) (fin := false) (q := 98) (by decide +kernel) (vx_Tk hT5 (by decide +kernel)) (fun h14 e14 => ?_)
        have hT14 := vx_TK hT5 e14
        replace H := H h14 e14 hT14
        refine vx_iconst (n := 1) (q := 99) (by decide +kernel) ?_
        refine vx_retZ (q := 100) (by decide +kernel) (Or.inr rfl) ?_
        exact H
      · replace H := H.2.2.2 c8
        refine vx_iload (n := 7) (q := 114) (by decide +kernel) rfl ?_
        obtain ⟨k15, H⟩ := H
        refine vx_if0_ne (off := 5) (q := 117) (t := 119) (by decide +kernel) k15 (fun c16 => ?_) (fun c16 => ?_)
        · replace H := H.1 c16
          refine vx_iload (n := 7) (q := 121) (by decide +kernel) rfl ?_
          refine vx_iconst (n := (-1)) (q := 122) (by decide +kernel) ?_
          refine vx_icmp_ne (off := 29) (q := 125) (t := 151) (by decide +kernel) k15 (by decide) (fun c17 => ?_) (fun c17 => ?_)
          · replace H := H.1 c17
            refine vx_aload_n (n := 0) (q := 152) (by decide +kernel) rfl ?_
            refine vx_aload_n (n := 0) (q := 153) (by decide +kernel) rfl ?_
            refine vx_getR (b := 644) (idx := 65) (kd := 9) (s := 25) (fin := true) (q := 156) (by decide +kernel) (vx_Tk hT5 (by decide +kernel)) (vx_Tr hT5 (kd := 9) (by decide +kernel) (by decide +kernel) (by decide +kernel)) ?_
            refine vx_iload_n (n := 1) (q := 157) (by decide +kernel) rfl ?_
            obtain ⟨k18, H⟩ := H
            refine vx_iaload (z := 366) (q := 158) (by decide +kernel) (vx_Tk hT5 (by decide +kernel)) (vx_Tz hT5 (by decide +kernel)) (vx_ix k18 (by decide)) ?_
            refine vx_bipush (n := 47) (q := 160) (by decide +kernel) ?_
            refine vx_icmp_ne (off := 12) (q := 163) (t := 172) (by decide +kernel) (vx_rI_J h5 644 x1.toNat) (by decide) (fun c19 => ?_) (fun c19 => ?_)
            · replace H := H.1 c19
              refine vx_iload (n := 6) (q := 174) (by decide +kernel) rfl ?_
              refine vx_iload (n := 7) (q := 176) (by decide +kernel) rfl ?_
              obtain ⟨k20, H⟩ := H
              refine vx_irem (q := 177) (by decide +kernel) k20 ?_
              refine vx_i2l (q := 178) (by decide +kernel) (vx_rI_toInt _) ?_
              refine vx_putL (idx := 379) (kd := 9) (s := 69) (fin := false) (q := 181) (by decide +kernel) (vx_Tk hT5 (by decide +kernel)) (fun h21 e21 => ?_)
              have hT21 := vx_TK hT5 e21
              replace H := H h21 e21 hT21
              refine vx_iconst (n := 1) (q := 182) (by decide +kernel) ?_
              refine vx_retZ (q := 183) (by decide +kernel) (Or.inr rfl) ?_
              exact H
            · replace H := H.2 c19
              refine vx_iload (n := 6) (q := 165) (by decide +kernel) rfl ?_
              refine vx_iload (n := 7) (q := 167) (by decide +kernel) rfl ?_
              obtain ⟨k22, H⟩ := H
              refine vx_idiv (q := 168) (by decide +kernel) k22 ?_
              refine vx_i2l (q := 169) (by decide +kernel) (vx_rI_toInt _) ?_
              refine vx_goto (off := 9) (q := 172) (t := 178) (by decide +kernel) ?_
              refine vx_putL (idx := 379) (kd := 9) (s := 69) (fin := false) (q := 181) (by decide +kernel) (vx_Tk hT5 (by decide +kernel)) (fun h23 e23 => ?_)
              have hT23 := vx_TK hT5 e23
              replace H := H h23 e23 hT23
              refine vx_iconst (n := 1) (q := 182) (by decide +kernel) ?_
              refine vx_retZ (q := 183) (by decide +kernel) (Or.inr rfl) ?_
              exact H
          · replace H := H.2 c17
            refine vx_aload_n (n := 0) (q := 126) (by decide +kernel) rfl ?_
            refine vx_aload_n (n := 0) (q := 127) (by decide +kernel) rfl ?_
            refine vx_getR (b := 644) (idx := 65) (kd := 9) (s := 25) (fin := true) (q := 130) (by decide +kernel) (vx_Tk hT5 (by decide +kernel)) (vx_Tr hT5 (kd := 9) (by decide +kernel) (by decide +kernel) (by decide +kernel)) ?_
            refine vx_iload_n (n := 1) (q := 131) (by decide +kernel) rfl ?_
            obtain ⟨k24, H⟩ := H
            refine vx_iaload (z := 366) (q := 132) (by decide +kernel) (vx_Tk hT5 (by decide +kernel)) (vx_Tz hT5 (by decide +kernel)) (vx_ix k24 (by decide)) ?_
            refine vx_bipush (n := 47) (q := 134) (by decide +kernel) ?_
            refine vx_icmp_ne (off := 10) (q := 137) (t := 144) (by decide +kernel) (vx_rI_J h5 644 x1.toNat) (by decide) (fun c25 => ?_) (fun c25 => ?_)
            · replace H := H.1 c25
              refine vx_lconst (n := 0) (m := 0) (q := 145) (by decide +kernel) ?_
              refine vx_putL (idx := 379) (kd := 9) (s := 69) (fin := false) (q := 148) (by decide +kernel) (vx_Tk hT5 (by decide +kernel)) (fun h26 e26 => ?_)
              have hT26 := vx_TK hT5 e26
              replace H := H h26 e26 hT26
              refine vx_goto (off := 33) (q := 151) (t := 181) (by decide +kernel) ?_
              refine vx_iconst (n := 1) (q := 182) (by decide +kernel) ?_
              refine vx_retZ (q := 183) (by decide +kernel) (Or.inr rfl) ?_
              exact H
            · replace H := H.2 c25
              refine vx_iload (n := 6) (q := 139) (by decide +kernel) rfl ?_
              refine vx_ineg (q := 140) (by decide +kernel) ?_
              obtain ⟨k27, H⟩ := H
              refine vx_i2l (q := 141) (by decide +kernel) k27 ?_
              refine vx_goto (off := 4) (q := 144) (t := 145) (by decide +kernel) ?_
              refine vx_putL (idx := 379) (kd := 9) (s := 69) (fin := false) (q := 148) (by decide +kernel) (vx_Tk hT5 (by decide +kernel)) (fun h28 e28 => ?_)
              have hT28 := vx_TK hT5 e28
              replace H := H h28 e28 hT28
              refine vx_goto (off := 33) (q := 151) (t := 181) (by decide +kernel) ?_
              refine vx_iconst (n := 1) (q := 182) (by decide +kernel) ?_
              refine vx_retZ (q := 183) (by decide +kernel) (Or.inr rfl) ?_
              exact H
        · replace H := H.2 c16
          refine vx_iconst (n := 0) (q := 118) (by decide +kernel) ?_
          refine vx_retZ (q := 119) (by decide +kernel) (Or.inl rfl) ?_
          exact H
    · replace H := H.2 c6
      refine vx_iconst (n := 0) (q := 31) (by decide +kernel) ?_
      refine vx_retZ (q := 32) (by decide +kernel) (Or.inl rfl) ?_
      exact H
-- RuleHouseModel.mayHold()Z
theorem vg_74 {d : Nat} {h : ve_H} {P : Int → ve_H → Prop}  (hT : vx_T 625 672 h) (H : vx_W (d + 1) 74 8 [some (.ref 625), some (.int (vx_i (6 * (vx_J h 625 42))))] [] h (vx_RI P)) : vx_CI (d + 1) 74 [.ref 625] h P := by
  refine vx_enter (ml := 2) (by decide +kernel) ?_
  show vx_W _ _ 0 [some (.ref 625), none] [] h _
  refine vx_bipush (n := 6) (q := 2) (by decide +kernel) ?_
  refine vx_aload_n (n := 0) (q := 3) (by decide +kernel) rfl ?_
  refine vx_getI (idx := 223) (kd := 9) (s := 42) (fin := false) (q := 6) (by decide +kernel) (vx_Tk hT (by decide +kernel)) ?_
  refine vx_imul (q := 7) (by decide +kernel) ?_
  refine vx_istore_n (n := 1) (q := 8) (lv' := [some (.ref 625), some (.int (vx_i (6 * (vx_J h 625 42))))]) (by decide +kernel) rfl ?_
  exact H
theorem vg_74_8 {d : Nat} {h : ve_H} {P : Int → ve_H → Prop} {v1 : Int} (hT : vx_T 625 672 h) (H : (0 ≤ (vx_J h 625 42) ∧ (vx_J h 625 42) < 61) ∧ (vx_rI v1) ∧ (vx_rI ((6 * (vx_J h 625 42)) + (vx_J h 641 (vx_J h 625 42).toNat))) ∧ ((((6 * (vx_J h 625 42)) + (vx_J h 641 (vx_J h 625 42).toNat)) ≤ v1 → P 1 h) ∧ (v1 < ((6 * (vx_J h 625 42)) + (vx_J h 641 (vx_J h 625 42).toNat)) → (0 ≤ v1 ∧ v1 < 366) ∧ (((vx_J h 643 v1.toNat) ≠ 2 → vx_W (d + 1) 74 67 [some (.ref 625), some (.int (vx_i v1))] [] h (vx_RI P)) ∧ ((vx_J h 643 v1.toNat) = 2 → vx_CI d 68 [.ref 625, .int (vx_i v1), .int (vx_i 0)] h (fun r7 h7 => vx_T 625 672 h7 → ((r7 = 0 → vx_W (d + 1) 74 67 [some (.ref 625), some (.int (vx_i v1))] [] h7 (vx_RI P)) ∧ (r7 ≠ 0 → vx_CI d 68 [.ref 625, .int (vx_i v1), .int (vx_i 1)] h7 (fun r9 h9 => vx_T 625 672 h9 → ((r9 = 0 → vx_W (d + 1) 74 67 [some (.ref 625), some (.int (vx_i v1))] [] h9 (vx_RI P)) ∧ (r9 ≠ 0 → vx_CI d 72 [.ref 625, .int (vx_i v1)] h9 (fun r11 h11 => vx_T 625 672 h11 → ((r11 ≠ 0 → vx_W (d + 1) 74 67 [some (.ref 625), some (.int (vx_i v1))] [] h11 (vx_RI P)) ∧ (r11 = 0 → P 0 h11)))))))))))))) : vx_W (d + 1) 74 8 [some (.ref 625), some (.int (vx_i v1))] [] h (vx_RI P) := by
  refine vx_iload_n (n := 1) (q := 9) (by decide +kernel) rfl ?_
  refine vx_bipush (n := 6) (q := 11) (by decide +kernel) ?_
  refine vx_aload_n (n := 0) (q := 12) (by decide +kernel) rfl ?_
  refine vx_getI (idx := 223) (kd := 9) (s := 42) (fin := false) (q := 15) (by decide +kernel) (vx_Tk hT (by decide +kernel)) ?_
  refine vx_imul (q := 16) (by decide +kernel) ?_
  refine vx_aload_n (n := 0) (q := 17) (by decide +kernel) rfl ?_
  refine vx_getR (b := 641) (idx := 56) (kd := 9) (s := 22) (fin := true) (q := 20) (by decide +kernel) (vx_Tk hT (by decide +kernel)) (vx_Tr hT (kd := 9) (by decide +kernel) (by decide +kernel) (by decide +kernel)) ?_
  refine vx_aload_n (n := 0) (q := 21) (by decide +kernel) rfl ?_
  refine vx_getI (idx := 223) (kd := 9) (s := 42) (fin := false) (q := 24) (by decide +kernel) (vx_Tk hT (by decide +kernel)) ?_
  obtain ⟨k1, H⟩ := H
  refine vx_iaload (z := 61) (q := 25) (by decide +kernel) (vx_Tk hT (by decide +kernel)) (vx_Tz hT (by decide +kernel)) (vx_ix k1 (by decide)) ?_
  refine vx_iadd (q := 26) (by decide +kernel) ?_
  obtain ⟨k2, H⟩ := H
  obtain ⟨k3, H⟩ := H
  refine vx_icmp_ge (off := 108) (q := 29) (t := 134) (by decide +kernel) k2 k3 (fun c4 => ?_) (fun c4 => ?_)
  · replace H := H.1 c4
    refine vx_iconst (n := 1) (q := 135) (by decide +kernel) ?_
    refine vx_retZ (q := 136) (by decide +kernel) (Or.inr rfl) ?_
    exact H
  · replace H := H.2 c4
    refine vx_aload_n (n := 0) (q := 30) (by decide +kernel) rfl ?_
    refine vx_getR (b := 643) (idx := 62) (kd := 9) (s := 24) (fin := true) (q := 33) (by decide +kernel) (vx_Tk hT (by decide +kernel)) (vx_Tr hT (kd := 9) (by decide +kernel) (by decide +kernel) (by decide +kernel)) ?_
    refine vx_iload_n (n := 1) (q := 34) (by decide +kernel) rfl ?_
    obtain ⟨k5, H⟩ := H
    refine vx_iaload (z := 366) (q := 35) (by decide +kernel) (vx_Tk hT (by decide +kernel)) (vx_Tz hT (by decide +kernel)) (vx_ix k5 (by decide)) ?_
    refine vx_iconst (n := 2) (q := 36) (by decide +kernel) ?_
    refine vx_icmp_ne (off := 31) (q := 39) (t := 67) (by decide +kernel) (vx_rI_J h 643 v1.toNat) (by decide) (fun c6 => ?_) (fun c6 => ?_)
    · replace H := H.1 c6
      exact H
    · replace H := H.2 c6
      refine vx_aload_n (n := 0) (q := 40) (by decide +kernel) rfl ?_
      refine vx_iload_n (n := 1) (q := 41) (by decide +kernel) rfl ?_
      refine vx_iconst (n := 0) (q := 42) (by decide +kernel) ?_
      refine vx_callI (i := .invokevirtual 382) (how := 3) (cm := 68) (np := 3) (q := 45) (args := [.ref 625, .int (vx_i v1), .int (vx_i 0)]) (rest := []) (by decide +kernel) rfl rfl rfl (vx_w2 (w := 3) (ml := 3) rfl (by decide +kernel)) (vx_rcv (kd := 9) (vx_Tk hT (by decide +kernel)) (by decide +kernel)) H (fun r7 h7 hr7 hs7 H => ?_)
      have hT7 := vx_Tsh hT hs7
      replace H := H hT7
      refine vx_if0_eq (off := 22) (q := 48) (t := 67) (by decide +kernel) hr7 (fun c8 => ?_) (fun c8 => ?_)
      · replace H := H.1 c8
        exact H
      · replace H := H.2 c8
        refine vx_aload_n (n := 0) (q := 49) (by decide +kernel) rfl ?_
        refine vx_iload_n (n := 1) (q := 50) (by decide +kernel) rfl ?_
        refine vx_iconst (n := 1) (q := 51) (by decide +kernel) ?_
        refine vx_callI (i := .invokevirtual 382) (how := 3) (cm := 68) (np := 3) (q := 54) (args := [.ref 625, .int (vx_i v1), .int (vx_i 1)]) (rest := []) (by decide +kernel) rfl rfl rfl (vx_w2 (w := 3) (ml := 3) rfl (by decide +kernel)) (vx_rcv (kd := 9) (vx_Tk hT7 (by decide +kernel)) (by decide +kernel)) H (fun r9 h9 hr9 hs9 H => ?_)
        have hT9 := vx_Tsh hT7 hs9
        replace H := H hT9
        refine vx_if0_eq (off := 13) (q := 57) (t := 67) (by decide +kernel) hr9 (fun c10 => ?_) (fun c10 => ?_)
        · replace H := H.1 c10
          exact H
        · replace H := H.2 c10
          refine vx_aload_n (n := 0) (q := 58) (by decide +kernel) rfl ?_
          refine vx_iload_n (n := 1) (q := 59) (by decide +kernel) rfl ?_
          refine vx_callI (i := .invokevirtual 385) (how := 3) (cm := 72) (np := 2) (q := 62) (args := [.ref 625, .int (vx_i v1)]) (rest := []) (by decide +kernel) rfl rfl rfl (vx_w2 (w := 2) (ml := 7) rfl (by decide +kernel)) (vx_rcv (kd := 9) (vx_Tk hT9 (by decide +kernel)) (by decide +kernel)) H (fun r11 h11 hr11 hs11 H => ?_)
          have hT11 := vx_Tsh hT9 hs11
          replace H := H hT11
          refine vx_if0_ne (off := 5) (q := 65) (t := 67) (by decide +kernel) hr11 (fun c12 => ?_) (fun c12 => ?_)
          · replace H := H.1 c12
            exact H
          · replace H := H.2 c12
            refine vx_iconst (n := 0) (q := 66) (by decide +kernel) ?_
            refine vx_retZ (q := 67) (by decide +kernel) (Or.inl rfl) ?_
            exact H
theorem vg_74_67 {d : Nat} {h : ve_H} {P : Int → ve_H → Prop} {v1 : Int} (hT : vx_T 625 672 h) (H : (0 ≤ v1 ∧ v1 < 366) ∧ (((vx_J h 643 v1.toNat) ≠ 3 → vx_W (d + 1) 74 8 [some (.ref 625), some (.int (vx_i (v1 + 1)))] [] h (vx_RI P)) ∧ ((vx_J h 643 v1.toNat) = 3 → vx_CI d 68 [.ref 625, .int (vx_i v1), .int (vx_i 1)] h (fun r3 h3 => vx_T 625 672 h3 → ((r3 = 0 → vx_W (d + 1) 74 8 [some (.ref 625), some (.int (vx_i (v1 + 1)))] [] h3 (vx_RI P)) ∧ (r3 ≠ 0 → vx_CI d 68 [.ref 625, .int (vx_i v1), .int (vx_i 2)] h3 (fun r5 h5 => vx_T 625 672 h5 → ((r5 = 0 → vx_W (d + 1) 74 8 [some (.ref 625), some (.int (vx_i (v1 + 1)))] [] h5 (vx_RI P)) ∧ (r5 ≠ 0 → vx_CI d 73 [.ref 625, .int (vx_i v1)] h5 (fun r7 h7 => vx_T 625 672 h7 → ((r7 = 0 → P 0 h7) ∧ (r7 ≠ 0 → vx_CI d 68 [.ref 625, .int (vx_i v1), .int (vx_i 0)] h7 (fun r9 h9 => vx_T 625 672 h9 → ((r9 = 0 → vx_W (d + 1) 74 8 [some (.ref 625), some (.int (vx_i (v1 + 1)))] [] h9 (vx_RI P)) ∧ (r9 ≠ 0 → vx_CL d 69 [.ref 625, .int (vx_i v1), .int (vx_i 0)] h9 (fun r11 h11 => vx_T 625 672 h11 → ((r11 = (vx_K h11 625 69) → vx_W (d + 1) 74 8 [some (.ref 625), some (.int (vx_i (v1 + 1)))] [] h11 (vx_RI P)) ∧ (r11 ≠ (vx_K h11 625 69) → P 0 h11)))))))))))))))))) : vx_W (d + 1) 74 67 [some (.ref 625), some (.int (vx_i v1))] [] h (vx_RI P) := by
  refine vx_aload_n (n := 0) (q := 68) (by decide +kernel) rfl ?_
  refine vx_getR (b := 643) (idx := 62) (kd := 9) (s := 24) (fin := true) (q := 71) (by decide +kernel) (vx_Tk hT (by decide +kernel)) (vx_Tr hT (kd := 9) (by decide +kernel) (by decide +kernel) (by decide +kernel)) ?_
  refine vx_iload_n (n := 1) (q := 72) (by decide +kernel) rfl ?_
  obtain ⟨k1, H⟩ := H
  refine vx_iaload (z := 366) (q := 73) (by decide +kernel) (vx_Tk hT (by decide +kernel)) (vx_Tz hT (by decide +kernel)) (vx_ix k1 (by decide)) ?_
  refine vx_iconst (n := 3) (q := 74) (by decide +kernel) ?_
  refine vx_icmp_ne (off := 54) (q := 77) (t := 128) (by decide +kernel) (vx_rI_J h 643 v1.toNat) (by decide) (fun c2 => ?_) (fun c2 => ?_)
  · replace H := H.1 c2
    refine vx_iinc (n := 1) (m := 1) (x := v1) (q := 131) (lv' := [some (.ref 625), some (.int (vx_i (v1 + 1)))]) (by decide +kernel) rfl rfl ?_
    refine vx_goto (off := (-123)) (q := 134) (t := 8) (by decide +kernel) ?_
    exact H
  · replace H := H.2 c2
    refine vx_aload_n (n := 0) (q := 78) (by decide +kernel) rfl ?_
    refine vx_iload_n (n := 1) (q := 79) (by decide +kernel) rfl ?_
    refine vx_iconst (n := 1) (q := 80) (by decide +kernel) ?_
    refine vx_callI (i := .invokevirtual 382) (how := 3) (cm := 68) (np := 3) (q := 83) (args := [.ref 625, .int (vx_i v1), .int (vx_i 1)]) (rest := []) (by decide +kernel) rfl rfl rfl (vx_w2 (w := 3) (ml := 3) rfl (by decide +kernel)) (vx_rcv (kd := 9) (vx_Tk hT (by decide +kernel)) (by decide +kernel)) H (fun r3 h3 hr3 hs3 H => ?_)
    have hT3 := vx_Tsh hT hs3
    replace H := H hT3
    refine vx_if0_eq (off := 45) (q := 86) (t := 128) (by decide +kernel) hr3 (fun c4 => ?_) (fun c4 => ?_)
    · replace H := H.1 c4
      refine vx_iinc (n := 1) (m := 1) (x := v1) (q := 131) (lv' := [some (.ref 625), some (.int (vx_i (v1 + 1)))]) (by decide +kernel) rfl rfl ?_
      refine vx_goto (off := (-123)) (q := 134) (t := 8) (by decide +kernel) ?_
      exact H
    · replace H := H.2 c4
      refine vx_aload_n (n := 0) (q := 87) (by decide +kernel) rfl ?_
      refine vx_iload_n (n := 1) (q := 88) (by decide +kernel) rfl ?_
      refine vx_iconst (n := 2) (q := 89) (by decide +kernel) ?_
      refine vx_callI (i := .invokevirtual 382) (how := 3) (cm := 68) (np := 3) (q := 92) (args := [.ref 625, .int (vx_i v1), .int (vx_i 2)]) (rest := []) (by decide +kernel) rfl rfl rfl (vx_w2 (w := 3) (ml := 3) rfl (by decide +kernel)) (vx_rcv (kd := 9) (vx_Tk hT3 (by decide +kernel)) (by decide +kernel)) H (fun r5 h5 hr5 hs5 H => ?_)
      have hT5 := vx_Tsh hT3 hs5
      replace H := H hT5
      refine vx_if0_eq (off := 36) (q := 95) (t := 128) (by decide +kernel) hr5 (fun c6 => ?_) (fun c6 => ?_)
      · replace H := H.1 c6
        refine vx_iinc (n := 1) (m := 1) (x := v1) (q := 131) (lv' := [some (.ref 625), some (.int (vx_i (v1 + 1)))]) (by decide +kernel) rfl rfl ?_
        refine vx_goto (off := (-123)) (q := 134) (t := 8) (by decide +kernel) ?_
        exact H
      · replace H := H.2 c6
        refine vx_aload_n (n := 0) (q := 96) (by decide +kernel) rfl ?_
        refine vx_iload_n (n := 1) (q := 97) (by decide +kernel) rfl ?_
        refine vx_callI (i := .invokevirtual 388) (how := 3) (cm := 73) (np := 2) (q := 100) (args := [.ref 625, .int (vx_i v1)]) (rest := []) (by decide +kernel) rfl rfl rfl (vx_w2 (w := 2) (ml := 8) rfl (by decide +kernel)) (vx_rcv (kd := 9) (vx_Tk hT5 (by decide +kernel)) (by decide +kernel)) H (fun r7 h7 hr7 hs7 H => ?_)
        have hT7 := vx_Tsh hT5 hs7
        replace H := H hT7
        refine vx_if0_eq (off := 26) (q := 103) (t := 126) (by decide +kernel) hr7 (fun c8 => ?_) (fun c8 => ?_)
        · replace H := H.1 c8
          refine vx_iconst (n := 0) (q := 127) (by decide +kernel) ?_
          refine vx_retZ (q := 128) (by decide +kernel) (Or.inl rfl) ?_
          exact H
        · replace H := H.2 c8
          refine vx_aload_n (n := 0) (q := 104) (by decide +kernel) rfl ?_
          refine vx_iload_n (n := 1) (q := 105) (by decide +kernel) rfl ?_
          refine vx_iconst (n := 0) (q := 106) (by decide +kernel) ?_
          refine vx_callI (i := .invokevirtual 382) (how := 3) (cm := 68) (np := 3) (q := 109) (args := [.ref 625, .int (vx_i v1), .int (vx_i 0)]) (rest := []) (by decide +kernel) rfl rfl rfl (vx_w2 (w := 3) (ml := 3) rfl (by decide +kernel)) (vx_rcv (kd := 9) (vx_Tk hT7 (by decide +kernel)) (by decide +kernel)) H (fun r9 h9 hr9 hs9 H => ?_)
          have hT9 := vx_Tsh hT7 hs9
          replace H := H hT9
          refine vx_if0_eq (off := 19) (q := 112) (t := 128) (by decide +kernel) hr9 (fun c10 => ?_) (fun c10 => ?_)
          · replace H := H.1 c10
            refine vx_iinc (n := 1) (m := 1) (x := v1) (q := 131) (lv' := [some (.ref 625), some (.int (vx_i (v1 + 1)))]) (by decide +kernel) rfl rfl ?_
            refine vx_goto (off := (-123)) (q := 134) (t := 8) (by decide +kernel) ?_
            exact H
          · replace H := H.2 c10
            refine vx_aload_n (n := 0) (q := 113) (by decide +kernel) rfl ?_
            refine vx_iload_n (n := 1) (q := 114) (by decide +kernel) rfl ?_
            refine vx_iconst (n := 0) (q := 115) (by decide +kernel) ?_
            refine vx_callL (i := .invokevirtual 371) (how := 3) (cm := 69) (np := 3) (q := 118) (args := [.ref 625, .int (vx_i v1), .int (vx_i 0)]) (rest := []) (by decide +kernel) rfl rfl rfl (vx_w2 (w := 3) (ml := 3) rfl (by decide +kernel)) (vx_rcv (kd := 9) (vx_Tk hT9 (by decide +kernel)) (by decide +kernel)) H (fun r11 h11 hr11 hs11 H => ?_)
            have hT11 := vx_Tsh hT9 hs11
            replace H := H hT11
            refine vx_aload_n (n := 0) (q := 119) (by decide +kernel) rfl ?_
            refine vx_getL (idx := 379) (kd := 9) (s := 69) (fin := false) (q := 122) (by decide +kernel) (vx_Tk hT11 (by decide +kernel)) ?_
            refine vx_lc_eq (off := 5) (p := 123) (q := 126) (t := 128) (by decide +kernel) hr11 (vx_rL_K h11 625 69) (fun c12 => ?_) (fun c12 => ?_)
            · replace H := H.1 c12
              refine vx_iinc (n := 1) (m := 1) (x := v1) (q := 131) (lv' := [some (.ref 625), some (.int (vx_i (v1 + 1)))]) (by decide +kernel) rfl rfl ?_
              refine vx_goto (off := (-123)) (q := 134) (t := 8) (by decide +kernel) ?_
              exact H
            · replace H := H.2 c12
              refine vx_iconst (n := 0) (q := 127) (by decide +kernel) ?_
              refine vx_retZ (q := 128) (by decide +kernel) (Or.inl rfl) ?_
              exact H
-- RuleHouseModel.set(IIJ)V
theorem vg_75 {d : Nat} {h : ve_H} {P : ve_H → Prop} {x1 : Int} {x2 : Int} {x3 : Int} (hT : vx_T 625 672 h) (H : (0 ≤ ((4 * x1) + x2) ∧ ((4 * x1) + x2) < 1464) ∧ (0 ≤ (vx_K h 646 ((4 * x1) + x2).toNat) ∧ (vx_K h 646 ((4 * x1) + x2).toNat) < 9) ∧ (∀ h3, h3 = vx_sJ h 664 (vx_K h 646 ((4 * x1) + x2).toNat).toNat 1 → vx_T 625 672 h3 → (0 ≤ (vx_K h 646 ((4 * x1) + x2).toNat) ∧ (vx_K h 646 ((4 * x1) + x2).toNat) < 9) ∧ (∀ h5, h5 = vx_sK h3 665 (vx_K h 646 ((4 * x1) + x2).toNat).toNat x3 → vx_T 625 672 h5 → P h5))) : vx_CV d 75 [.ref 625, .int (vx_i x1), .int (vx_i x2), .long (vx_l x3)] h P := by
  refine vx_enter (ml := 6) (by decide +kernel) ?_
  show vx_W _ _ 0 [some (.ref 625), some (.int (vx_i x1)), some (.int (vx_i x2)), some (.long (vx_l x3)), none, none] [] h _
  refine vx_aload_n (n := 0) (q := 1) (by decide +kernel) rfl ?_
  refine vx_getR (b := 646) (idx := 71) (kd := 9) (s := 27) (fin := true) (q := 4) (by decide +kernel) (vx_Tk hT (by decide +kernel)) (vx_Tr hT (kd := 9) (by decide +kernel) (by decide +kernel) (by decide +kernel)) ?_
  refine vx_iconst (n := 4) (q := 5) (by decide +kernel) ?_
  refine vx_iload_n (n := 1) (q := 6) (by decide +kernel) rfl ?_
  refine vx_imul (q := 7) (by decide +kernel) ?_
  refine vx_iload_n (n := 2) (q := 8) (by decide +kernel) rfl ?_
  refine vx_iadd (q := 9) (by decide +kernel) ?_
  obtain ⟨k1, H⟩ := H
  refine vx_laload (z := 1464) (q := 10) (by decide +kernel) (vx_Tk hT (by decide +kernel)) (vx_Tz hT (by decide +kernel)) (vx_ix k1 (by decide)) ?_
  refine vx_l2i (q := 11) (by decide +kernel) ?_
  refine vx_istore (n := 5) (q := 13) (lv' := [some (.ref 625), some (.int (vx_i x1)), some (.int (vx_i x2)), some (.long (vx_l x3)), none, some (.int (vx_i (vx_K h 646 ((4 * x1) + x2).toNat)))]) (by decide +kernel) rfl ?_
  refine vx_aload_n (n := 0) (q := 14) (by decide +kernel) rfl ?_
  refine vx_getR (b := 664) (idx := 130) (kd := 9) (s := 63) (fin := true) (q := 17) (by decide +kernel) (vx_Tk hT (by decide +kernel)) (vx_Tr hT (kd := 9) (by decide +kernel) (by decide +kernel) (by decide +kernel)) ?_
  refine vx_iload (n := 5) (q := 19) (by decide +kernel) rfl ?_
  refine vx_iconst (n := 1) (q := 20) (by decide +kernel) ?_
  obtain ⟨k2, H⟩ := H
  refine vx_zastore (z := 9) (q := 21) (by decide +kernel) (vx_Tk hT (by decide +kernel)) (vx_Tz hT (by decide +kernel)) (vx_ix k2 (by decide)) (Or.inr rfl) (fun h3 e3 => ?_)
  have hT3 := vx_TJ hT e3
  replace H := H h3 e3 hT3
  refine vx_aload_n (n := 0) (q := 22) (by decide +kernel) rfl ?_
  refine vx_getR (b := 665) (idx := 133) (kd := 9) (s := 64) (fin := true) (q := 25) (by decide +kernel) (vx_Tk hT3 (by decide +kernel)) (vx_Tr hT3 (kd := 9) (by decide +kernel) (by decide +kernel) (by decide +kernel)) ?_
  refine vx_iload (n := 5) (q := 27) (by decide +kernel) rfl ?_
  refine vx_lload_n (n := 3) (q := 28) (by decide +kernel) rfl ?_
  obtain ⟨k4, H⟩ := H
  refine vx_lastore (z := 9) (q := 29) (by decide +kernel) (vx_Tk hT3 (by decide +kernel)) (vx_Tz hT3 (by decide +kernel)) (vx_ix k4 (by decide)) (fun h5 e5 => ?_)
  have hT5 := vx_TK hT3 e5
  replace H := H h5 e5 hT5
  refine vx_retV (q := 30) (by decide +kernel) ?_
  exact H
