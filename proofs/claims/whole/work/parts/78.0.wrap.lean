/-! Walks with sums that wrap (printed by wip/whole/gen_wrap.py out of my own parts) -/
def vx_w (x : Int) : Int := (vx_i x).toInt
theorem vx_w_r (x : Int) : vx_rI (vx_w x) := vx_rI_toInt _
theorem vx_w_id {x : Int} (hx : vx_rI x) : vx_w x = x := vx_i_toInt hx
theorem vx_i_w (x : Int) : vx_i (vx_w x) = vx_i x := vx_i_of _
section
variable {d mi pc q t : Nat} {lv lv' : ve_V} {st : List Value} {h : ve_H} {Q : ve_O → ve_H → Prop}
theorem vx_i2lw {x : Int} (hf : vx_at mi pc .i2l q) (k : vx_W d mi q lv (.long (vx_l (vx_w x)) :: st) h Q) : vx_W d mi pc lv (.int (vx_i x) :: st) h Q := by
  rw [← vx_i_w x]
  exact vx_i2l hf (vx_w_r x) k
theorem vx_retIw {x : Int} {P : Int → ve_H → Prop} (hf : vx_at mi pc .ireturn q ∧ ve_rt mi = some .int) (k : P (vx_w x) h) : vx_W d mi pc lv [.int (vx_i x)] h (vx_RI P) := by
  rw [← vx_i_w x]
  exact vx_retI hf (vx_w_r x) k
end
theorem vh_124 {d : Nat} {h : ve_H} {P : Int → ve_H → Prop} {x1 : Int} {x2 : Int} {x3 : Int} (hT : vx_T 1 625 h) (H : (vx_rI x2) ∧ ((x2 = 42 → P (vx_w (x1 * x3)) h) ∧ (x2 = 43 → P (vx_w (x1 + x3)) h) ∧ (x2 = 45 → P (vx_w (x1 - x3)) h) ∧ (x2 = 47 → (vx_rI x3) ∧ ((x3 ≠ 0 → (vx_rI x3 ∧ x3 ≠ 0) ∧ P (vx_div x1 x3) h) ∧ (x3 = 0 → P 0 h))) ∧ (x2 ≠ 42 ∧ x2 ≠ 43 ∧ x2 ≠ 45 ∧ x2 ≠ 47 ∧ True → (vx_rI x3) ∧ ((x3 ≠ 0 → (vx_rI x3 ∧ x3 ≠ 0) ∧ P (vx_rem x1 x3) h) ∧ (x3 = 0 → P 0 h))))) : vx_CI d 124 [.int (vx_i x1), .int (vx_i x2), .int (vx_i x3)] h P := by
  refine vx_enter (ml := 3) (by decide +kernel) ?_
  show vx_W _ _ 0 [some (.int (vx_i x1)), some (.int (vx_i x2)), some (.int (vx_i x3))] [] h _
  refine vx_iload_n (n := 1) (q := 1) (by decide +kernel) rfl ?_
  obtain ⟨k1, H⟩ := H
  refine vx_tsw (dd := 63) (lo := 42) (hi := 47) (offs := #[47, 39, 63, 43, 63, 51]) (tl := [(42, 48), (43, 40), (45, 44), (47, 52)]) (td := 64) (q := 40) (by decide +kernel) k1 ⟨fun c2 => ?_, fun c2 => ?_, fun c2 => ?_, fun c2 => ?_, trivial⟩ (fun c2 => ?_)
  · replace H := H.1 c2
    refine vx_iload_n (n := 0) (q := 49) (by decide +kernel) rfl ?_
    refine vx_iload_n (n := 2) (q := 50) (by decide +kernel) rfl ?_
    refine vx_imul (q := 51) (by decide +kernel) ?_
    refine vx_retIw (q := 52) (by decide +kernel) ?_
    exact H
  · replace H := H.2.1 c2
    refine vx_iload_n (n := 0) (q := 41) (by decide +kernel) rfl ?_
    refine vx_iload_n (n := 2) (q := 42) (by decide +kernel) rfl ?_
    refine vx_iadd (q := 43) (by decide +kernel) ?_
    refine vx_retIw (q := 44) (by decide +kernel) ?_
    exact H
  · replace H := H.2.2.1 c2
    refine vx_iload_n (n := 0) (q := 45) (by decide +kernel) rfl ?_
    refine vx_iload_n (n := 2) (q := 46) (by decide +kernel) rfl ?_
    refine vx_isub (q := 47) (by decide +kernel) ?_
    refine vx_retIw (q := 48) (by decide +kernel) ?_
    exact H
  · replace H := H.2.2.2.1 c2
    refine vx_iload_n (n := 2) (q := 53) (by decide +kernel) rfl ?_
    obtain ⟨k6, H⟩ := H
    refine vx_if0_ne (off := 7) (q := 56) (t := 60) (by decide +kernel) k6 (fun c7 => ?_) (fun c7 => ?_)
    · replace H := H.1 c7
      refine vx_iload_n (n := 0) (q := 61) (by decide +kernel) rfl ?_
      refine vx_iload_n (n := 2) (q := 62) (by decide +kernel) rfl ?_
      obtain ⟨k8, H⟩ := H
      refine vx_idiv (q := 63) (by decide +kernel) k8 ?_
      refine vx_retI (q := 64) (by decide +kernel) (vx_rI_toInt _) ?_
      exact H
    · replace H := H.2 c7
      refine vx_iconst (n := 0) (q := 57) (by decide +kernel) ?_
      refine vx_goto (off := 6) (q := 60) (t := 63) (by decide +kernel) ?_
      refine vx_retI (q := 64) (by decide +kernel) (by decide) ?_
      exact H
  · replace H := H.2.2.2.2 c2
    refine vx_iload_n (n := 2) (q := 65) (by decide +kernel) rfl ?_
    obtain ⟨k9, H⟩ := H
    refine vx_if0_ne (off := 7) (q := 68) (t := 72) (by decide +kernel) k9 (fun c10 => ?_) (fun c10 => ?_)
    · replace H := H.1 c10
      refine vx_iload_n (n := 0) (q := 73) (by decide +kernel) rfl ?_
      refine vx_iload_n (n := 2) (q := 74) (by decide +kernel) rfl ?_
      obtain ⟨k11, H⟩ := H
      refine vx_irem (q := 75) (by decide +kernel) k11 ?_
      refine vx_retI (q := 76) (by decide +kernel) (vx_rI_toInt _) ?_
      exact H
    · replace H := H.2 c10
      refine vx_iconst (n := 0) (q := 69) (by decide +kernel) ?_
      refine vx_goto (off := 6) (q := 72) (t := 75) (by decide +kernel) ?_
      refine vx_retI (q := 76) (by decide +kernel) (by decide) ?_
      exact H
theorem vh_116 {d : Nat} {h : ve_H} {P : Int → ve_H → Prop} {x1 : Int} {x2 : Int} (hT : vx_T 1 625 h) (H : (∃ b1, ve_R h 21 7 = some b1 ∧ vx_o 1 625 7 b1 ∧ (((vx_J h b1 2) = 6 → P (vx_w (x1 + 1)) h) ∧ ((vx_J h b1 2) = 7 → vx_CI d 129 [.long (vx_l x2)] h (fun r4 h4 => vx_T 1 625 h4 → ((r4 = 0 → (vx_rL x1) ∧ P x1 h4) ∧ (r4 ≠ 0 → P (vx_w (x1 + x2)) h4)))) ∧ ((vx_J h b1 2) = 8 → vx_CL d 221 [.long (vx_l x1), .long (vx_l x2)] h (fun r8 h8 => vx_T 1 625 h8 → P r8 h8)) ∧ ((vx_J h b1 2) ≠ 6 ∧ (vx_J h b1 2) ≠ 7 ∧ (vx_J h b1 2) ≠ 8 ∧ True → vx_CL d 220 [.long (vx_l x1), .long (vx_l x2)] h (fun r9 h9 => vx_T 1 625 h9 → P r9 h9))))) : vx_CL (d + 1) 116 [.ref 21, .long (vx_l x1), .long (vx_l x2)] h P := by
  refine vx_enter (ml := 5) (by decide +kernel) ?_
  show vx_W _ _ 0 [some (.ref 21), some (.long (vx_l x1)), none, some (.long (vx_l x2)), none] [] h _
  refine vx_aload_n (n := 0) (q := 1) (by decide +kernel) rfl ?_
  obtain ⟨b1, eb1, ob1, H⟩ := H
  refine vx_getR (b := b1) (idx := 109) (kd := 4) (s := 7) (fin := false) (q := 4) (by decide +kernel) (vx_Tk hT (by decide +kernel)) eb1 ?_
  refine vx_getI (idx := 112) (kd := 7) (s := 2) (fin := false) (q := 7) (by decide +kernel) (vx_Tk hT ob1) ?_
  refine vx_tsw (dd := 54) (lo := 6) (hi := 8) (offs := #[25, 31, 48]) (tl := [(6, 32), (7, 38), (8, 55)]) (td := 61) (q := 32) (by decide +kernel) (vx_rI_J h b1 2) ⟨fun c2 => ?_, fun c2 => ?_, fun c2 => ?_, trivial⟩ (fun c2 => ?_)
  · replace H := H.1 c2
    refine vx_lload_n (n := 1) (q := 33) (by decide +kernel) rfl ?_
    refine vx_lconst (n := 1) (m := 1) (q := 34) (by decide +kernel) ?_
    refine vx_ladd (q := 35) (by decide +kernel) ?_
    refine vx_l2i (q := 36) (by decide +kernel) ?_
    refine vx_i2lw (q := 37) (by decide +kernel) ?_
    refine vx_retL (q := 38) (by decide +kernel) (vx_IL (vx_w_r _)) ?_
    exact H
  · replace H := H.2.1 c2
    refine vx_lload_n (n := 3) (q := 39) (by decide +kernel) rfl ?_
    refine vx_callI (i := .invokestatic 221) (how := 4) (cm := 129) (np := 1) (q := 42) (args := [.long (vx_l x2)]) (rest := []) (by decide +kernel) rfl rfl rfl (vx_w2 (w := 2) (ml := 2) rfl (by decide +kernel)) rfl H (fun r4 h4 hr4 hs4 H => ?_)
    have hT4 := vx_Tsh hT hs4
    replace H := H hT4
    refine vx_if0_eq (off := 11) (q := 45) (t := 53) (by decide +kernel) hr4 (fun c5 => ?_) (fun c5 => ?_)
    · replace H := H.1 c5
      refine vx_lload_n (n := 1) (q := 54) (by decide +kernel) rfl ?_
      obtain ⟨k6, H⟩ := H
      refine vx_retL (q := 55) (by decide +kernel) k6 ?_
      exact H
    · replace H := H.2 c5
      refine vx_lload_n (n := 1) (q := 46) (by decide +kernel) rfl ?_
      refine vx_lload_n (n := 3) (q := 47) (by decide +kernel) rfl ?_
      refine vx_ladd (q := 48) (by decide +kernel) ?_
      refine vx_l2i (q := 49) (by decide +kernel) ?_
      refine vx_i2lw (q := 50) (by decide +kernel) ?_
      refine vx_goto (off := 4) (q := 53) (t := 54) (by decide +kernel) ?_
      refine vx_retL (q := 55) (by decide +kernel) (vx_IL (vx_w_r _)) ?_
      exact H
  · replace H := H.2.2.1 c2
    refine vx_lload_n (n := 1) (q := 56) (by decide +kernel) rfl ?_
    refine vx_lload_n (n := 3) (q := 57) (by decide +kernel) rfl ?_
    refine vx_callL (i := .invokestatic 225) (how := 4) (cm := 221) (np := 2) (q := 60) (args := [.long (vx_l x1), .long (vx_l x2)]) (rest := []) (by decide +kernel) rfl rfl rfl (vx_w2 (w := 4) (ml := 4) rfl (by decide +kernel)) rfl H (fun r8 h8 hr8 hs8 H => ?_)
    have hT8 := vx_Tsh hT hs8
    replace H := H hT8
    refine vx_retL (q := 61) (by decide +kernel) hr8 ?_
    exact H
  · replace H := H.2.2.2 c2
    refine vx_lload_n (n := 1) (q := 62) (by decide +kernel) rfl ?_
    refine vx_lload_n (n := 3) (q := 63) (by decide +kernel) rfl ?_
    refine vx_callL (i := .invokestatic 230) (how := 4) (cm := 220) (np := 2) (q := 66) (args := [.long (vx_l x1), .long (vx_l x2)]) (rest := []) (by decide +kernel) rfl rfl rfl (vx_w2 (w := 4) (ml := 4) rfl (by decide +kernel)) rfl H (fun r9 h9 hr9 hs9 H => ?_)
    have hT9 := vx_Tsh hT hs9
    replace H := H hT9
    refine vx_retL (q := 67) (by decide +kernel) hr9 ?_
    exact H
theorem vh_73 {d : Nat} {h : ve_H} {P : Int → ve_H → Prop} {x1 : Int} (hT : vx_T 625 672 h) (H : vx_CL d 69 [.ref 625, .int (vx_i x1), .int (vx_i 1)] h (fun r1 h1 => vx_T 625 672 h1 → vx_CL d 69 [.ref 625, .int (vx_i x1), .int (vx_i 2)] h1 (fun r2 h2 => vx_T 625 672 h2 → vx_CI d 66 [.long (vx_l r1)] h2 (fun r3 h3 => vx_T 625 672 h3 → ((r3 ≠ 0 → P 0 h3) ∧ (r3 = 0 → vx_CI d 66 [.long (vx_l r2)] h3 (fun r5 h5 => vx_T 625 672 h5 → ((r5 = 0 → (0 ≤ x1 ∧ x1 < 366) ∧ (((vx_J h5 644 x1.toNat) = 42 → (∀ h10, h10 = vx_sK h5 625 69 (vx_w (r1 * r2)) → vx_T 625 672 h10 → P 1 h10)) ∧ ((vx_J h5 644 x1.toNat) = 43 → (∀ h12, h12 = vx_sK h5 625 69 (vx_w (r1 + r2)) → vx_T 625 672 h12 → P 1 h12)) ∧ ((vx_J h5 644 x1.toNat) = 45 → (∀ h14, h14 = vx_sK h5 625 69 (vx_w (r1 - r2)) → vx_T 625 672 h14 → P 1 h14)) ∧ ((vx_J h5 644 x1.toNat) ≠ 42 ∧ (vx_J h5 644 x1.toNat) ≠ 43 ∧ (vx_J h5 644 x1.toNat) ≠ 45 ∧ True → (vx_rI r2) ∧ ((r2 ≠ 0 → ((r2 ≠ ((-1)) → (0 ≤ x1 ∧ x1 < 366) ∧ (((vx_J h5 644 x1.toNat) ≠ 47 → (vx_rI r2 ∧ r2 ≠ 0) ∧ (∀ h21, h21 = vx_sK h5 625 69 (vx_rem r1 r2) → vx_T 625 672 h21 → P 1 h21)) ∧ ((vx_J h5 644 x1.toNat) = 47 → (vx_rI r2 ∧ r2 ≠ 0) ∧ (∀ h23, h23 = vx_sK h5 625 69 (vx_div r1 r2) → vx_T 625 672 h23 → P 1 h23)))) ∧ (r2 = ((-1)) → (0 ≤ x1 ∧ x1 < 366) ∧ (((vx_J h5 644 x1.toNat) ≠ 47 → (∀ h26, h26 = vx_sK h5 625 69 0 → vx_T 625 672 h26 → P 1 h26)) ∧ ((vx_J h5 644 x1.toNat) = 47 → (∀ h28, h28 = vx_sK h5 625 69 (vx_w (-r1)) → vx_T 625 672 h28 → P 1 h28)))))) ∧ (r2 = 0 → P 0 h5))))) ∧ (r5 ≠ 0 → P 0 h5))))))))) : vx_CI (d + 1) 73 [.ref 625, .int (vx_i x1)] h P := by
  refine vx_enter (ml := 8) (by decide +kernel) ?_
  show vx_W _ _ 0 [some (.ref 625), some (.int (vx_i x1)), none, none, none, none, none, none] [] h _
  refine vx_aload_n (n := 0) (q := 1) (by decide +kernel) rfl ?_
  refine vx_iload_n (n := 1) (q := 2) (by decide +kernel) rfl ?_
  refine vx_iconst (n := 1) (q := 3) (by decide +kernel) ?_
  refine vx_callL (i := .invokevirtual 371) (how := 3) (cm := 69) (np := 3) (q := 6) (args := [.ref 625, .int (vx_i x1), .int (vx_i 1)]) (rest := []) (by decide +kernel) rfl rfl rfl (vx_w2 (w := 3) (ml := 3) rfl (by decide +kernel)) (vx_rcv (kd := 9) (vx_Tk hT (by decide +kernel)) (by decide +kernel)) H (fun r1 h1 hr1 hs1 H => ?_)
  have hT1 := vx_Tsh hT hs1
  replace H := H hT1
  refine vx_lstore_n (n := 2) (q := 7) (lv' := [some (.ref 625), some (.int (vx_i x1)), some (.long (vx_l r1)), none, none, none, none, none]) (by decide +kernel) rfl ?_
  refine vx_aload_n (n := 0) (q := 8) (by decide +kernel) rfl ?_
  refine vx_iload_n (n := 1) (q := 9) (by decide +kernel) rfl ?_
  refine vx_iconst (n := 2) (q := 10) (by decide +kernel) ?_
  refine vx_callL (i := .invokevirtual 371) (how := 3) (cm := 69) (np := 3) (q := 13) (args := [.ref 625, .int (vx_i x1), .int (vx_i 2)]) (rest := []) (by decide +kernel) rfl rfl rfl (vx_w2 (w := 3) (ml := 3) rfl (by decide +kernel)) (vx_rcv (kd := 9) (vx_Tk hT1 (by decide +kernel)) (by decide +kernel)) H (fun r2 h2 hr2 hs2 H => ?_)
  have hT2 := vx_Tsh hT1 hs2
  replace H := H hT2
  refine vx_lstore (n := 4) (q := 15) (lv' := [some (.ref 625), some (.int (vx_i x1)), some (.long (vx_l r1)), none, some (.long (vx_l r2)), none, none, none]) (by decide +kernel) rfl ?_
  refine vx_lload_n (n := 2) (q := 16) (by decide +kernel) rfl ?_
  refine vx_callI (i := .invokestatic 364) (how := 4) (cm := 66) (np := 1) (q := 19) (args := [.long (vx_l r1)]) (rest := []) (by decide +kernel) rfl rfl rfl (vx_w2 (w := 2) (ml := 2) rfl (by decide +kernel)) rfl H (fun r3 h3 hr3 hs3 H => ?_)
  have hT3 := vx_Tsh hT2 hs3
  replace H := H hT3
  refine vx_if0_ne (off := 11) (q := 22) (t := 30) (by decide +kernel) hr3 (fun c4 => ?_) (fun c4 => ?_)
  · replace H := H.1 c4
    refine vx_iconst (n := 0) (q := 31) (by decide +kernel) ?_
    refine vx_retZ (q := 32) (by decide +kernel) (Or.inl rfl) ?_
    exact H
  · replace H := H.2 c4
    refine vx_lload (n := 4) (q := 24) (by decide +kernel) rfl ?_
    refine vx_callI (i := .invokestatic 364) (how := 4) (cm := 66) (np := 1) (q := 27) (args := [.long (vx_l r2)]) (rest := []) (by decide +kernel) rfl rfl rfl (vx_w2 (w := 2) (ml := 2) rfl (by decide +kernel)) rfl H (fun r5 h5 hr5 hs5 H => ?_)
    have hT5 := vx_Tsh hT3 hs5
    replace H := H hT5
    refine vx_if0_eq (off := 5) (q := 30) (t := 32) (by decide +kernel) hr5 (fun c6 => ?_) (fun c6 => ?_)
    · replace H := H.1 c6
      refine vx_lload_n (n := 2) (q := 33) (by decide +kernel) rfl ?_
      refine vx_l2i (q := 34) (by decide +kernel) ?_
      refine vx_istore (n := 6) (q := 36) (lv' := [some (.ref 625), some (.int (vx_i x1)), some (.long (vx_l r1)), none, some (.long (vx_l r2)), none, some (.int (vx_i r1)), none]) (by decide +kernel) rfl ?_
      refine vx_lload (n := 4) (q := 38) (by decide +kernel) rfl ?_
      refine vx_l2i (q := 39) (by decide +kernel) ?_
      refine vx_istore (n := 7) (q := 41) (lv' := [some (.ref 625), some (.int (vx_i x1)), some (.long (vx_l r1)), none, some (.long (vx_l r2)), none, some (.int (vx_i r1)), some (.int (vx_i r2))]) (by decide +kernel) rfl ?_
      refine vx_aload_n (n := 0) (q := 42) (by decide +kernel) rfl ?_
      refine vx_getR (b := 644) (idx := 65) (kd := 9) (s := 25) (fin := true) (q := 45) (by decide +kernel) (vx_Tk hT5 (by decide +kernel)) (vx_Tr hT5 (kd := 9) (by decide +kernel) (by decide +kernel) (by decide +kernel)) ?_
      refine vx_iload_n (n := 1) (q := 46) (by decide +kernel) rfl ?_
      obtain ⟨k7, H⟩ := H
      refine vx_iaload (z := 366) (q := 47) (by decide +kernel) (vx_Tk hT5 (by decide +kernel)) (vx_Tz hT5 (by decide +kernel)) (vx_ix k7 (by decide)) ?_
      refine vx_tsw (dd := 65) (lo := 42) (hi := 45) (offs := #[53, 29, 65, 41]) (tl := [(42, 100), (43, 76), (45, 88)]) (td := 112) (q := 76) (by decide +kernel) (vx_rI_J h5 644 x1.toNat) ⟨fun c8 => ?_, fun c8 => ?_, fun c8 => ?_, trivial⟩ (fun c8 => ?_)
      · replace H := H.1 c8
        refine vx_aload_n (n := 0) (q := 101) (by decide +kernel) rfl ?_
        refine vx_iload (n := 6) (q := 103) (by decide +kernel) rfl ?_
        refine vx_iload (n := 7) (q := 105) (by decide +kernel) rfl ?_
        refine vx_imul (q := 106) (by decide +kernel) ?_
        refine vx_i2lw (q := 107) (by decide +kernel) ?_
        refine vx_putL (idx := 379) (kd := 9) (s := 69) (fin := false) (q := 110) (by decide +kernel) (vx_Tk hT5 (by decide +kernel)) (fun h10 e10 => ?_)
        have hT10 := vx_TK hT5 e10
        replace H := H h10 e10 hT10
        refine vx_iconst (n := 1) (q := 111) (by decide +kernel) ?_
        refine vx_retZ (q := 112) (by decide +kernel) (Or.inr rfl) ?_
        exact H
      · replace H := H.2.1 c8
        refine vx_aload_n (n := 0) (q := 77) (by decide +kernel) rfl ?_
        refine vx_iload (n := 6) (q := 79) (by decide +kernel) rfl ?_
        refine vx_iload (n := 7) (q := 81) (by decide +kernel) rfl ?_
        refine vx_iadd (q := 82) (by decide +kernel) ?_
        refine vx_i2lw (q := 83) (by decide +kernel) ?_
        refine vx_putL (idx := 379) (kd := 9) (s := 69) (fin := false) (q := 86) (by decide +kernel) (vx_Tk hT5 (by decide +kernel)) (fun h12 e12 => ?_)
        have hT12 := vx_TK hT5 e12
        replace H := H h12 e12 hT12
        refine vx_iconst (n := 1) (q := 87) (by decide +kernel) ?_
        refine vx_retZ (q := 88) (by decide +kernel) (Or.inr rfl) ?_
        exact H
      · replace H := H.2.2.1 c8
        refine vx_aload_n (n := 0) (q := 89) (by decide +kernel) rfl ?_
        refine vx_iload (n := 6) (q := 91) (by decide +kernel) rfl ?_
        refine vx_iload (n := 7) (q := 93) (by decide +kernel) rfl ?_
        refine vx_isub (q := 94) (by decide +kernel) ?_
        refine vx_i2lw (q := 95) (by decide +kernel) ?_
        refine vx_putL (idx := 379) (kd := 9) (s := 69) (fin := false) (q := 98) (by decide +kernel) (vx_Tk hT5 (by decide +kernel)) (fun h14 e14 => ?_)
        have hT14 := vx_TK hT5 e14
        replace H := H h14 e14 hT14
        refine vx_iconst (n := 1) (q := 99) (by decide +kernel) ?_
        refine vx_retZ (q := 100) (by decide +kernel) (Or.inr rfl) ?_
        exact H
      · replace H := H.2.2.2 c8
        refine vx_iload (n := 7) (q := 114) (by decide +kernel) rfl ?_
        obtain ⟨k15, H⟩ := H
        refine vx_if0_ne (off := 5) (q := 117) (t := 119) (by decide +kernel) k15 (fun c16 => ?_) (fun c16 => ?_)
        · replace H := H.1 c16
          refine vx_iload (n := 7) (q := 121) (by decide +kernel) rfl ?_
          refine vx_iconst (n := (-1)) (q := 122) (by decide +kernel) ?_
          refine vx_icmp_ne (off := 29) (q := 125) (t := 151) (by decide +kernel) k15 (by decide) (fun c17 => ?_) (fun c17 => ?_)
          · replace H := H.1 c17
            refine vx_aload_n (n := 0) (q := 152) (by decide +kernel) rfl ?_
            refine vx_aload_n (n := 0) (q := 153) (by decide +kernel) rfl ?_
            refine vx_getR (b := 644) (idx := 65) (kd := 9) (s := 25) (fin := true) (q := 156) (by decide +kernel) (vx_Tk hT5 (by decide +kernel)) (vx_Tr hT5 (kd := 9) (by decide +kernel) (by decide +kernel) (by decide +kernel)) ?_
            refine vx_iload_n (n := 1) (q := 157) (by decide +kernel) rfl ?_
            obtain ⟨k18, H⟩ := H
            refine vx_iaload (z := 366) (q := 158) (by decide +kernel) (vx_Tk hT5 (by decide +kernel)) (vx_Tz hT5 (by decide +kernel)) (vx_ix k18 (by decide)) ?_
            refine vx_bipush (n := 47) (q := 160) (by decide +kernel) ?_
            refine vx_icmp_ne (off := 12) (q := 163) (t := 172) (by decide +kernel) (vx_rI_J h5 644 x1.toNat) (by decide) (fun c19 => ?_) (fun c19 => ?_)
            · replace H := H.1 c19
              refine vx_iload (n := 6) (q := 174) (by decide +kernel) rfl ?_
              refine vx_iload (n := 7) (q := 176) (by decide +kernel) rfl ?_
              obtain ⟨k20, H⟩ := H
              refine vx_irem (q := 177) (by decide +kernel) k20 ?_
              refine vx_i2l (q := 178) (by decide +kernel) (vx_rI_toInt _) ?_
              refine vx_putL (idx := 379) (kd := 9) (s := 69) (fin := false) (q := 181) (by decide +kernel) (vx_Tk hT5 (by decide +kernel)) (fun h21 e21 => ?_)
              have hT21 := vx_TK hT5 e21
              replace H := H h21 e21 hT21
              refine vx_iconst (n := 1) (q := 182) (by decide +kernel) ?_
              refine vx_retZ (q := 183) (by decide +kernel) (Or.inr rfl) ?_
              exact H
            · replace H := H.2 c19
              refine vx_iload (n := 6) (q := 165) (by decide +kernel) rfl ?_
              refine vx_iload (n := 7) (q := 167) (by decide +kernel) rfl ?_
              obtain ⟨k22, H⟩ := H
              refine vx_idiv (q := 168) (by decide +kernel) k22 ?_
              refine vx_i2l (q := 169) (by decide +kernel) (vx_rI_toInt _) ?_
              refine vx_goto (off := 9) (q := 172) (t := 178) (by decide +kernel) ?_
              refine vx_putL (idx := 379) (kd := 9) (s := 69) (fin := false) (q := 181) (by decide +kernel) (vx_Tk hT5 (by decide +kernel)) (fun h23 e23 => ?_)
              have hT23 := vx_TK hT5 e23
              replace H := H h23 e23 hT23
              refine vx_iconst (n := 1) (q := 182) (by decide +kernel) ?_
              refine vx_retZ (q := 183) (by decide +kernel) (Or.inr rfl) ?_
              exact H
          · replace H := H.2 c17
            refine vx_aload_n (n := 0) (q := 126) (by decide +kernel) rfl ?_
            refine vx_aload_n (n := 0) (q := 127) (by decide +kernel) rfl ?_
            refine vx_getR (b := 644) (idx := 65) (kd := 9) (s := 25) (fin := true) (q := 130) (by decide +kernel) (vx_Tk hT5 (by decide +kernel)) (vx_Tr hT5 (kd := 9) (by decide +kernel) (by decide +kernel) (by decide +kernel)) ?_
            refine vx_iload_n (n := 1) (q := 131) (by decide +kernel) rfl ?_
            obtain ⟨k24, H⟩ := H
            refine vx_iaload (z := 366) (q := 132) (by decide +kernel) (vx_Tk hT5 (by decide +kernel)) (vx_Tz hT5 (by decide +kernel)) (vx_ix k24 (by decide)) ?_
            refine vx_bipush (n := 47) (q := 134) (by decide +kernel) ?_
            refine vx_icmp_ne (off := 10) (q := 137) (t := 144) (by decide +kernel) (vx_rI_J h5 644 x1.toNat) (by decide) (fun c25 => ?_) (fun c25 => ?_)
            · replace H := H.1 c25
              refine vx_lconst (n := 0) (m := 0) (q := 145) (by decide +kernel) ?_
              refine vx_putL (idx := 379) (kd := 9) (s := 69) (fin := false) (q := 148) (by decide +kernel) (vx_Tk hT5 (by decide +kernel)) (fun h26 e26 => ?_)
              have hT26 := vx_TK hT5 e26
              replace H := H h26 e26 hT26
              refine vx_goto (off := 33) (q := 151) (t := 181) (by decide +kernel) ?_
              refine vx_iconst (n := 1) (q := 182) (by decide +kernel) ?_
              refine vx_retZ (q := 183) (by decide +kernel) (Or.inr rfl) ?_
              exact H
            · replace H := H.2 c25
              refine vx_iload (n := 6) (q := 139) (by decide +kernel) rfl ?_
              refine vx_ineg (q := 140) (by decide +kernel) ?_
              refine vx_i2lw (q := 141) (by decide +kernel) ?_
              refine vx_goto (off := 4) (q := 144) (t := 145) (by decide +kernel) ?_
              refine vx_putL (idx := 379) (kd := 9) (s := 69) (fin := false) (q := 148) (by decide +kernel) (vx_Tk hT5 (by decide +kernel)) (fun h28 e28 => ?_)
              have hT28 := vx_TK hT5 e28
              replace H := H h28 e28 hT28
              refine vx_goto (off := 33) (q := 151) (t := 181) (by decide +kernel) ?_
              refine vx_iconst (n := 1) (q := 182) (by decide +kernel) ?_
              refine vx_retZ (q := 183) (by decide +kernel) (Or.inr rfl) ?_
              exact H
        · replace H := H.2 c16
          refine vx_iconst (n := 0) (q := 118) (by decide +kernel) ?_
          refine vx_retZ (q := 119) (by decide +kernel) (Or.inl rfl) ?_
          exact H
    · replace H := H.2 c6
      refine vx_iconst (n := 0) (q := 31) (by decide +kernel) ?_
      refine vx_retZ (q := 32) (by decide +kernel) (Or.inl rfl) ?_
      exact H
theorem vh_86_210 {d : Nat} {h : ve_H} {P : ve_H → Prop} {v1 : Int} {v2 : Int} {v3 : Int} {v5 : Int} {v6 : Int} {v7 : Option Value} (hT : vx_T 625 672 h) (H : (0 ≤ (vx_J h 625 42) ∧ (vx_J h 625 42) < 61) ∧ (((vx_J h 639 (vx_J h 625 42).toNat) = 2 → (0 ≤ v5 ∧ v5 < 202) ∧ (0 ≤ v5 ∧ v5 < 202) ∧ (∀ h6, h6 = vx_sK h 671 v5.toNat (vx_w ((vx_K h 671 v5.toNat) + 1)) → vx_T 625 672 h6 → P h6)) ∧ ((vx_J h 639 (vx_J h 625 42).toNat) = 3 → vx_CI d 66 [.long (vx_l v3)] h (fun r7 h7 => vx_T 625 672 h7 → ((r7 = 0 → (0 ≤ v5 ∧ v5 < 202) ∧ (0 ≤ v5 ∧ v5 < 202) ∧ (∀ h12, h12 = vx_sK h7 671 v5.toNat (vx_w ((vx_K h7 671 v5.toNat) + v3)) → vx_T 625 672 h12 → P h12)) ∧ (r7 ≠ 0 → (0 ≤ v5 ∧ v5 < 202) ∧ (0 ≤ v5 ∧ v5 < 202) ∧ (∀ h15, h15 = vx_sK h7 671 v5.toNat (vx_K h7 671 v5.toNat) → vx_T 625 672 h15 → P h15))))) ∧ ((vx_J h 639 (vx_J h 625 42).toNat) = 4 → (0 ≤ v5 ∧ v5 < 202) ∧ vx_CI d 67 [.long (vx_l v3), .long (vx_l (vx_K h 671 v5.toNat))] h (fun r17 h17 => vx_T 625 672 h17 → ((0 ≤ r17 → (0 ≤ v5 ∧ v5 < 202) ∧ (0 ≤ v5 ∧ v5 < 202) ∧ (∀ h21, h21 = vx_sK h17 671 v5.toNat (vx_K h17 671 v5.toNat) → vx_T 625 672 h21 → P h21)) ∧ (r17 < 0 → (0 ≤ v5 ∧ v5 < 202) ∧ (∀ h23, h23 = vx_sK h17 671 v5.toNat v3 → vx_T 625 672 h23 → P h23))))) ∧ ((vx_J h 639 (vx_J h 625 42).toNat) ≠ 2 ∧ (vx_J h 639 (vx_J h 625 42).toNat) ≠ 3 ∧ (vx_J h 639 (vx_J h 625 42).toNat) ≠ 4 ∧ True → (0 ≤ v5 ∧ v5 < 202) ∧ vx_CI d 67 [.long (vx_l v3), .long (vx_l (vx_K h 671 v5.toNat))] h (fun r25 h25 => vx_T 625 672 h25 → ((r25 ≤ 0 → (0 ≤ v5 ∧ v5 < 202) ∧ (0 ≤ v5 ∧ v5 < 202) ∧ (∀ h29, h29 = vx_sK h25 671 v5.toNat (vx_K h25 671 v5.toNat) → vx_T 625 672 h29 → P h29)) ∧ (0 < r25 → (0 ≤ v5 ∧ v5 < 202) ∧ (∀ h31, h31 = vx_sK h25 671 v5.toNat v3 → vx_T 625 672 h31 → P h31))))))) : vx_W (d + 1) 86 210 [some (.ref 625), some (.int (vx_i v1)), some (.int (vx_i v2)), some (.long (vx_l v3)), none, some (.int (vx_i v5)), some (.int (vx_i v6)), v7] [] h (vx_RV P) := by
  refine vx_aload_n (n := 0) (q := 211) (by decide +kernel) rfl ?_
  refine vx_getR (b := 639) (idx := 50) (kd := 9) (s := 20) (fin := true) (q := 214) (by decide +kernel) (vx_Tk hT (by decide +kernel)) (vx_Tr hT (kd := 9) (by decide +kernel) (by decide +kernel) (by decide +kernel)) ?_
  refine vx_aload_n (n := 0) (q := 215) (by decide +kernel) rfl ?_
  refine vx_getI (idx := 223) (kd := 9) (s := 42) (fin := false) (q := 218) (by decide +kernel) (vx_Tk hT (by decide +kernel)) ?_
  obtain ⟨k1, H⟩ := H
  refine vx_iaload (z := 61) (q := 219) (by decide +kernel) (vx_Tk hT (by decide +kernel)) (vx_Tz hT (by decide +kernel)) (vx_ix k1 (by decide)) ?_
  refine vx_tsw (dd := 120) (lo := 2) (hi := 4) (offs := #[25, 46, 85]) (tl := [(2, 244), (3, 265), (4, 304)]) (td := 339) (q := 244) (by decide +kernel) (vx_rI_J h 639 (vx_J h 625 42).toNat) ⟨fun c2 => ?_, fun c2 => ?_, fun c2 => ?_, trivial⟩ (fun c2 => ?_)
  · replace H := H.1 c2
    refine vx_aload_n (n := 0) (q := 245) (by decide +kernel) rfl ?_
    refine vx_getR (b := 671) (idx := 151) (kd := 9) (s := 77) (fin := true) (q := 248) (by decide +kernel) (vx_Tk hT (by decide +kernel)) (vx_Tr hT (kd := 9) (by decide +kernel) (by decide +kernel) (by decide +kernel)) ?_
    refine vx_iload (n := 5) (q := 250) (by decide +kernel) rfl ?_
    refine vx_aload_n (n := 0) (q := 251) (by decide +kernel) rfl ?_
    refine vx_getR (b := 671) (idx := 151) (kd := 9) (s := 77) (fin := true) (q := 254) (by decide +kernel) (vx_Tk hT (by decide +kernel)) (vx_Tr hT (kd := 9) (by decide +kernel) (by decide +kernel) (by decide +kernel)) ?_
    refine vx_iload (n := 5) (q := 256) (by decide +kernel) rfl ?_
    obtain ⟨k3, H⟩ := H
    refine vx_laload (z := 202) (q := 257) (by decide +kernel) (vx_Tk hT (by decide +kernel)) (vx_Tz hT (by decide +kernel)) (vx_ix k3 (by decide)) ?_
    refine vx_l2i (q := 258) (by decide +kernel) ?_
    refine vx_iconst (n := 1) (q := 259) (by decide +kernel) ?_
    refine vx_iadd (q := 260) (by decide +kernel) ?_
    refine vx_i2lw (q := 261) (by decide +kernel) ?_
    obtain ⟨k5, H⟩ := H
    refine vx_lastore (z := 202) (q := 262) (by decide +kernel) (vx_Tk hT (by decide +kernel)) (vx_Tz hT (by decide +kernel)) (vx_ix k5 (by decide)) (fun h6 e6 => ?_)
    have hT6 := vx_TK hT e6
    replace H := H h6 e6 hT6
    refine vx_goto (off := 109) (q := 265) (t := 371) (by decide +kernel) ?_
    refine vx_retV (q := 372) (by decide +kernel) ?_
    exact H
  · replace H := H.2.1 c2
    refine vx_aload_n (n := 0) (q := 266) (by decide +kernel) rfl ?_
    refine vx_getR (b := 671) (idx := 151) (kd := 9) (s := 77) (fin := true) (q := 269) (by decide +kernel) (vx_Tk hT (by decide +kernel)) (vx_Tr hT (kd := 9) (by decide +kernel) (by decide +kernel) (by decide +kernel)) ?_
    refine vx_iload (n := 5) (q := 271) (by decide +kernel) rfl ?_
    refine vx_lload_n (n := 3) (q := 272) (by decide +kernel) rfl ?_
    refine vx_callI (i := .invokestatic 364) (how := 4) (cm := 66) (np := 1) (q := 275) (args := [.long (vx_l v3)]) (rest := [.int (vx_i v5), .ref 671]) (by decide +kernel) rfl rfl rfl (vx_w2 (w := 2) (ml := 2) rfl (by decide +kernel)) rfl H (fun r7 h7 hr7 hs7 H => ?_)
    have hT7 := vx_Tsh hT hs7
    replace H := H hT7
    refine vx_if0_eq (off := 13) (q := 278) (t := 288) (by decide +kernel) hr7 (fun c8 => ?_) (fun c8 => ?_)
    · replace H := H.1 c8
      refine vx_aload_n (n := 0) (q := 289) (by decide +kernel) rfl ?_
      refine vx_getR (b := 671) (idx := 151) (kd := 9) (s := 77) (fin := true) (q := 292) (by decide +kernel) (vx_Tk hT7 (by decide +kernel)) (vx_Tr hT7 (kd := 9) (by decide +kernel) (by decide +kernel) (by decide +kernel)) ?_
      refine vx_iload (n := 5) (q := 294) (by decide +kernel) rfl ?_
      obtain ⟨k9, H⟩ := H
      refine vx_laload (z := 202) (q := 295) (by decide +kernel) (vx_Tk hT7 (by decide +kernel)) (vx_Tz hT7 (by decide +kernel)) (vx_ix k9 (by decide)) ?_
      refine vx_l2i (q := 296) (by decide +kernel) ?_
      refine vx_lload_n (n := 3) (q := 297) (by decide +kernel) rfl ?_
      refine vx_l2i (q := 298) (by decide +kernel) ?_
      refine vx_iadd (q := 299) (by decide +kernel) ?_
      refine vx_i2lw (q := 300) (by decide +kernel) ?_
      obtain ⟨k11, H⟩ := H
      refine vx_lastore (z := 202) (q := 301) (by decide +kernel) (vx_Tk hT7 (by decide +kernel)) (vx_Tz hT7 (by decide +kernel)) (vx_ix k11 (by decide)) (fun h12 e12 => ?_)
      have hT12 := vx_TK hT7 e12
      replace H := H h12 e12 hT12
      refine vx_goto (off := 70) (q := 304) (t := 371) (by decide +kernel) ?_
      refine vx_retV (q := 372) (by decide +kernel) ?_
      exact H
    · replace H := H.2 c8
      refine vx_aload_n (n := 0) (q := 279) (by decide +kernel) rfl ?_
      refine vx_getR (b := 671) (idx := 151) (kd := 9) (s := 77) (fin := true) (q := 282) (by decide +kernel) (vx_Tk hT7 (by decide +kernel)) (vx_Tr hT7 (kd := 9) (by decide +kernel) (by decide +kernel) (by decide +kernel)) ?_
      refine vx_iload (n := 5) (q := 284) (by decide +kernel) rfl ?_
      obtain ⟨k13, H⟩ := H
      refine vx_laload (z := 202) (q := 285) (by decide +kernel) (vx_Tk hT7 (by decide +kernel)) (vx_Tz hT7 (by decide +kernel)) (vx_ix k13 (by decide)) ?_
      refine vx_goto (off := 15) (q := 288) (t := 300) (by decide +kernel) ?_
      obtain ⟨k14, H⟩ := H
      refine vx_lastore (z := 202) (q := 301) (by decide +kernel) (vx_Tk hT7 (by decide +kernel)) (vx_Tz hT7 (by decide +kernel)) (vx_ix k14 (by decide)) (fun h15 e15 => ?_)
      have hT15 := vx_TK hT7 e15
      replace H := H h15 e15 hT15
      refine vx_goto (off := 70) (q := 304) (t := 371) (by decide +kernel) ?_
      refine vx_retV (q := 372) (by decide +kernel) ?_
      exact H
  · replace H := H.2.2.1 c2
    refine vx_aload_n (n := 0) (q := 305) (by decide +kernel) rfl ?_
    refine vx_getR (b := 671) (idx := 151) (kd := 9) (s := 77) (fin := true) (q := 308) (by decide +kernel) (vx_Tk hT (by decide +kernel)) (vx_Tr hT (kd := 9) (by decide +kernel) (by decide +kernel) (by decide +kernel)) ?_
    refine vx_iload (n := 5) (q := 310) (by decide +kernel) rfl ?_
    refine vx_lload_n (n := 3) (q := 311) (by decide +kernel) rfl ?_
    refine vx_aload_n (n := 0) (q := 312) (by decide +kernel) rfl ?_
    refine vx_getR (b := 671) (idx := 151) (kd := 9) (s := 77) (fin := true) (q := 315) (by decide +kernel) (vx_Tk hT (by decide +kernel)) (vx_Tr hT (kd := 9) (by decide +kernel) (by decide +kernel) (by decide +kernel)) ?_
    refine vx_iload (n := 5) (q := 317) (by decide +kernel) rfl ?_
    obtain ⟨k16, H⟩ := H
    refine vx_laload (z := 202) (q := 318) (by decide +kernel) (vx_Tk hT (by decide +kernel)) (vx_Tz hT (by decide +kernel)) (vx_ix k16 (by decide)) ?_
    refine vx_callI (i := .invokestatic 375) (how := 4) (cm := 67) (np := 2) (q := 321) (args := [.long (vx_l v3), .long (vx_l (vx_K h 671 v5.toNat))]) (rest := [.int (vx_i v5), .ref 671]) (by decide +kernel) rfl rfl rfl (vx_w2 (w := 4) (ml := 8) rfl (by decide +kernel)) rfl H (fun r17 h17 hr17 hs17 H => ?_)
    have hT17 := vx_Tsh hT hs17
    replace H := H hT17
    refine vx_if0_ge (off := 7) (q := 324) (t := 328) (by decide +kernel) hr17 (fun c18 => ?_) (fun c18 => ?_)
    · replace H := H.1 c18
      refine vx_aload_n (n := 0) (q := 329) (by decide +kernel) rfl ?_
      refine vx_getR (b := 671) (idx := 151) (kd := 9) (s := 77) (fin := true) (q := 332) (by decide +kernel) (vx_Tk hT17 (by decide +kernel)) (vx_Tr hT17 (kd := 9) (by decide +kernel) (by decide +kernel) (by decide +kernel)) ?_
      refine vx_iload (n := 5) (q := 334) (by decide +kernel) rfl ?_
      obtain ⟨k19, H⟩ := H
      refine vx_laload (z := 202) (q := 335) (by decide +kernel) (vx_Tk hT17 (by decide +kernel)) (vx_Tz hT17 (by decide +kernel)) (vx_ix k19 (by decide)) ?_
      obtain ⟨k20, H⟩ := H
      refine vx_lastore (z := 202) (q := 336) (by decide +kernel) (vx_Tk hT17 (by decide +kernel)) (vx_Tz hT17 (by decide +kernel)) (vx_ix k20 (by decide)) (fun h21 e21 => ?_)
      have hT21 := vx_TK hT17 e21
      replace H := H h21 e21 hT21
      refine vx_goto (off := 35) (q := 339) (t := 371) (by decide +kernel) ?_
      refine vx_retV (q := 372) (by decide +kernel) ?_
      exact H
    · replace H := H.2 c18
      refine vx_lload_n (n := 3) (q := 325) (by decide +kernel) rfl ?_
      refine vx_goto (off := 10) (q := 328) (t := 335) (by decide +kernel) ?_
      obtain ⟨k22, H⟩ := H
      refine vx_lastore (z := 202) (q := 336) (by decide +kernel) (vx_Tk hT17 (by decide +kernel)) (vx_Tz hT17 (by decide +kernel)) (vx_ix k22 (by decide)) (fun h23 e23 => ?_)
      have hT23 := vx_TK hT17 e23
      replace H := H h23 e23 hT23
      refine vx_goto (off := 35) (q := 339) (t := 371) (by decide +kernel) ?_
      refine vx_retV (q := 372) (by decide +kernel) ?_
      exact H
  · replace H := H.2.2.2 c2
    refine vx_aload_n (n := 0) (q := 340) (by decide +kernel) rfl ?_
    refine vx_getR (b := 671) (idx := 151) (kd := 9) (s := 77) (fin := true) (q := 343) (by decide +kernel) (vx_Tk hT (by decide +kernel)) (vx_Tr hT (kd := 9) (by decide +kernel) (by decide +kernel) (by decide +kernel)) ?_
    refine vx_iload (n := 5) (q := 345) (by decide +kernel) rfl ?_
    refine vx_lload_n (n := 3) (q := 346) (by decide +kernel) rfl ?_
    refine vx_aload_n (n := 0) (q := 347) (by decide +kernel) rfl ?_
    refine vx_getR (b := 671) (idx := 151) (kd := 9) (s := 77) (fin := true) (q := 350) (by decide +kernel) (vx_Tk hT (by decide +kernel)) (vx_Tr hT (kd := 9) (by decide +kernel) (by decide +kernel) (by decide +kernel)) ?_
    refine vx_iload (n := 5) (q := 352) (by decide +kernel) rfl ?_
    obtain ⟨k24, H⟩ := H
    refine vx_laload (z := 202) (q := 353) (by decide +kernel) (vx_Tk hT (by decide +kernel)) (vx_Tz hT (by decide +kernel)) (vx_ix k24 (by decide)) ?_
    refine vx_callI (i := .invokestatic 375) (how := 4) (cm := 67) (np := 2) (q := 356) (args := [.long (vx_l v3), .long (vx_l (vx_K h 671 v5.toNat))]) (rest := [.int (vx_i v5), .ref 671]) (by decide +kernel) rfl rfl rfl (vx_w2 (w := 4) (ml := 8) rfl (by decide +kernel)) rfl H (fun r25 h25 hr25 hs25 H => ?_)
    have hT25 := vx_Tsh hT hs25
    replace H := H hT25
    refine vx_if0_le (off := 7) (q := 359) (t := 363) (by decide +kernel) hr25 (fun c26 => ?_) (fun c26 => ?_)
    · replace H := H.1 c26
      refine vx_aload_n (n := 0) (q := 364) (by decide +kernel) rfl ?_
      refine vx_getR (b := 671) (idx := 151) (kd := 9) (s := 77) (fin := true) (q := 367) (by decide +kernel) (vx_Tk hT25 (by decide +kernel)) (vx_Tr hT25 (kd := 9) (by decide +kernel) (by decide +kernel) (by decide +kernel)) ?_
      refine vx_iload (n := 5) (q := 369) (by decide +kernel) rfl ?_
      obtain ⟨k27, H⟩ := H
      refine vx_laload (z := 202) (q := 370) (by decide +kernel) (vx_Tk hT25 (by decide +kernel)) (vx_Tz hT25 (by decide +kernel)) (vx_ix k27 (by decide)) ?_
      obtain ⟨k28, H⟩ := H
      refine vx_lastore (z := 202) (q := 371) (by decide +kernel) (vx_Tk hT25 (by decide +kernel)) (vx_Tz hT25 (by decide +kernel)) (vx_ix k28 (by decide)) (fun h29 e29 => ?_)
      have hT29 := vx_TK hT25 e29
      replace H := H h29 e29 hT29
      refine vx_retV (q := 372) (by decide +kernel) ?_
      exact H
    · replace H := H.2 c26
      refine vx_lload_n (n := 3) (q := 360) (by decide +kernel) rfl ?_
      refine vx_goto (off := 10) (q := 363) (t := 370) (by decide +kernel) ?_
      obtain ⟨k30, H⟩ := H
      refine vx_lastore (z := 202) (q := 371) (by decide +kernel) (vx_Tk hT25 (by decide +kernel)) (vx_Tz hT25 (by decide +kernel)) (vx_ix k30 (by decide)) (fun h31 e31 => ?_)
      have hT31 := vx_TK hT25 e31
      replace H := H h31 e31 hT31
      refine vx_retV (q := 372) (by decide +kernel) ?_
      exact H
