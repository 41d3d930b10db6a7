/-! The heap at the law's loop -/
theorem vx_two_at : ∃ h1 h2, ve_run 8300 999 0 0 (ve_en [.ref 1] 1) [] (ve_new vx_hz 1 13) = some (.inl none, h1) ∧ ve_run 300 999 18 0 (ve_en [.ref 625] 1) [] (ve_new h1 9 79) = some (.inl none, h2) ∧ vx_chk (ve_new h2 21 1) = true ∧ ve_n (ve_new h2 21 1) = 673 ∧ ve_u (ve_new h2 21 1) = 38722 ∧ ve_n h1 = 625 ∧ ve_u h1 = 19926 ∧ vx_two = some (ve_new h2 21 1) := by
  have h := vx_two_ok
  have hq : vx_two = vx_two := rfl
  unfold vx_two at h
  conv at hq => rhs; unfold vx_two
  cases e1 : ve_run 8300 999 0 0 (ve_en [.ref 1] 1) [] (ve_new vx_hz 1 13) with
  | none => rw [e1] at h; cases h
  | some r1 =>
    obtain ⟨o1, h1⟩ := r1
    rw [e1] at h
    cases o1 with
    | inr a => cases h
    | inl v1 =>
      cases v1 with
      | some v => cases h
      | none =>
        dsimp only at h
        cases hb : (ve_n h1).beq 625 && (ve_u h1).beq 19926 with
        | false => rw [hb] at h; cases h
        | true =>
        rw [hb] at h
        have hb2 := hb
        rw [Bool.and_eq_true] at hb2
        simp only [cond_true] at h
        cases e2 : ve_run 300 999 18 0 (ve_en [.ref 625] 1) [] (ve_new h1 9 79) with
        | none => rw [e2] at h; cases h
        | some r2 =>
          obtain ⟨o2, h2⟩ := r2
          rw [e2] at h
          cases o2 with
          | inr a => cases h
          | inl v2 =>
            cases v2 with
            | some v => cases h
            | none =>
              dsimp only at h
              rw [e1] at hq
              dsimp only at hq
              rw [hb] at hq
              simp only [cond_true] at hq
              rw [e2] at hq
              rw [Bool.and_eq_true, Bool.and_eq_true] at h
              exact ⟨h1, h2, rfl, e2, h.1, Nat.eq_of_beq_eq_true h.2.1, Nat.eq_of_beq_eq_true h.2.2, Nat.eq_of_beq_eq_true hb2.1, Nat.eq_of_beq_eq_true hb2.2, hq⟩
theorem vx_hz_k (a : Nat) : ve_k vx_hz a = 0 := by
  show (ve_gt 8 (ve_mk (0, 0) 8) a).1 = 0
  rw [ve_gt_mk]
theorem vx_hz_z (a : Nat) : ve_z vx_hz a = 0 := by
  show (ve_gt 8 (ve_mk (0, 0) 8) a).2 = 0
  rw [ve_gt_mk]
theorem vx_sm0 (L : Nat) (xs : Nat → Int32) : ve_sm (fun a => a ≠ 0) (ve_h0 L xs) vx_hz (ve_h0 L xs) := by
  refine ⟨rfl, rfl, fun a ha => ?_, fun a _ => vx_hz_k a, fun a ha => ?_, fun a ha => ⟨rfl, rfl, fun _ => ⟨rfl, rfl, rfl⟩⟩⟩
  · have ha2 : a ≠ 0 := ha
    refine ⟨?_, ?_, fun j => ⟨?_, ?_, ?_⟩⟩
    · rw [vx_hz_k, ve_h0_k, if_neg ha2]
    · rw [vx_hz_z, ve_h0_z, if_neg ha2]
    · rw [ve_h0_I, if_neg ha2]; exact ve_g2_m2 0 a j
    · rw [ve_h0_L]; exact ve_g2_m2 0 a j
    · rw [ve_h0_R]; exact ve_g2_m2 none a j
  · have : 1 ≤ a := ha
    show a ≠ 0
    omega
def vx_lb : Bool := (List.range 673).all (fun a => !Nat.blt (vx_ka a) 20 || Nat.ble (ve_fs (vx_ka a)).length (vx_za a))
theorem vx_lb_t : vx_lb = true := by decide +kernel
theorem vx_fz_rb {a k : Nat} (ha : a < 673) (h : vx_fz (vx_ka a) k = true) : k < vx_rb a := by
  have h1 := List.all_eq_true.mp vx_lb_t a (List.mem_range.mpr ha)
  unfold vx_fz at h
  unfold vx_rb
  rw [Bool.or_eq_true] at h
  rcases h with h | h
  · rw [Bool.and_eq_true] at h
    have hk := Nat.eq_of_beq_eq_true h.1
    rw [hk]
    exact Nat.lt_of_succ_le (Nat.le_of_ble_eq_true h.2)
  · cases hq : (ve_fs (vx_ka a))[k]? with
    | none => rw [hq] at h; cases h
    | some q =>
      have hlt : k < (ve_fs (vx_ka a)).length := (List.getElem?_eq_some_iff.mp hq).1
      have h20 : Nat.blt (vx_ka a) 20 = true := by
        cases hb : Nat.blt (vx_ka a) 20 with
        | true => rfl
        | false =>
          exfalso
          have hge : 10 ≤ vx_ka a := by
            rcases Nat.lt_or_ge (vx_ka a) 20 with q | q
            · rw [show Nat.blt (vx_ka a) 20 = true from Nat.ble_eq_true_of_le q] at hb; cases hb
            · omega
          have hnil : ve_fs (vx_ka a) = [] := by
            generalize vx_ka a = n at hge
            match n, hge with
            | n + 10, _ => rfl
          rw [hnil] at hlt
          cases hlt
      rw [h20] at h1 ⊢
      have h2 : Nat.ble (ve_fs (vx_ka a)).length (vx_za a) = true := h1
      exact Nat.lt_of_lt_of_le hlt (Nat.le_of_ble_eq_true h2)
/-- what is known of the heap at the loop's first turn -/
def vx_S0 (L : Nat) (xs : Nat → Int32) (h : ve_H) : Prop := vx_TL L xs h ∧ ve_n h = 673 ∧ ve_u h = 38722 ∧ (∀ a i, 1 ≤ a → a < 673 → i < vx_za a → (vx_ka a < 20 ∨ vx_za a = 16 ∨ vx_za a = 512 ∨ vx_za a = 2) → ve_I h a i = vx_ii a i) ∧ ve_R h 1 3 = some 39 ∧ ve_R h 1 4 = some 328 ∧ ve_R h 1 5 = some 617 ∧ ve_R h 1 6 = some 621 ∧ ve_R h 7 8 = some 8
theorem vx_chk_S0 {L : Nat} {xs : Nat → Int32} {h1 h : ve_H} (hc : vx_chk h1 = true) (hn : ve_n h1 = 673) (hu : ve_u h1 = 38722) (S : ve_sm (fun a => a ≠ 0) (ve_h0 L xs) h1 h) : vx_S0 L xs h := by
  unfold vx_chk at hc
  simp only [Bool.and_eq_true, decide_eq_true_eq] at hc
  obtain ⟨hall, r3, r4, r5, r6, r7⟩ := hc
  have hat : ∀ a, 1 ≤ a → a < 673 → vx_chk1 h1 a = true := by
    intro a h2 h3
    have := List.all_eq_true.mp hall (a - 1) (List.mem_range.mpr (by omega))
    rwa [show a - 1 + 1 = a by omega] at this
  have heq : ∀ a, 1 ≤ a → ve_eqa h1 h a := fun a h2 => S.2.2.1 a (show a ≠ 0 by omega)
  have h0 : ve_eqa h (ve_h0 L xs) 0 := S.2.2.2.2.2 0 (fun q => q rfl)
  refine ⟨⟨⟨?_, fun a h2 h3 => ?_⟩, ?_, ?_, ?_⟩, ?_, ?_, ?_, ?_, ?_, ?_, ?_, ?_⟩
  · rw [← S.1, hn]; exact Nat.le_refl _
  · have hk := hat a h2 h3
    unfold vx_chk1 at hk
    simp only [Bool.and_eq_true] at hk
    obtain ⟨e1, e2, e3, e4⟩ := hk
    refine ⟨(heq a h2).1.symm.trans (Nat.eq_of_beq_eq_true e1), (heq a h2).2.1.symm.trans (Nat.eq_of_beq_eq_true e2), fun k hk => ?_⟩
    have e5 := List.all_eq_true.mp e3 k (List.mem_range.mpr (vx_fz_rb h3 hk))
    rw [hk] at e5
    have e6 : decide (ve_R h1 a k = vx_ra a k) = true := e5
    exact ((heq a h2).2.2 k).2.2.symm.trans (of_decide_eq_true e6)
  · rw [h0.1, ve_h0_k, if_pos rfl]
  · rw [h0.2.1, ve_h0_z, if_pos rfl]
  · intro i
    rw [(h0.2.2 i).1, ve_h0_I, if_pos rfl]
  · rw [← S.1, hn]
  · rw [← S.2.1, hu]
  · intro a i h2 h3 hi hz
    have hk := hat a h2 h3
    unfold vx_chk1 at hk
    simp only [Bool.and_eq_true] at hk
    obtain ⟨e1, e2, e3, e4⟩ := hk
    rw [Bool.or_eq_true] at e4
    rw [← ((heq a h2).2.2 i).1]
    rcases e4 with e4 | e4
    · exfalso
      rw [Bool.not_eq_true'] at e4
      have e5 : (Nat.blt (vx_ka a) 20 || (vx_za a).beq 16 || (vx_za a).beq 512 || (vx_za a).beq 2) = true := by
        rw [Bool.or_eq_true, Bool.or_eq_true, Bool.or_eq_true]
        rcases hz with hz | hz | hz | hz
        · exact Or.inl (Or.inl (Or.inl (Nat.ble_eq_true_of_le hz)))
        · exact Or.inl (Or.inl (Or.inr (vx_bt hz)))
        · exact Or.inl (Or.inr (vx_bt hz))
        · exact Or.inr (vx_bt hz)
      rw [e5] at e4
      cases e4
    · exact of_decide_eq_true (List.all_eq_true.mp e4 i (List.mem_range.mpr hi))
  · exact ((heq 1 (by decide)).2.2 3).2.2.symm.trans r3
  · exact ((heq 1 (by decide)).2.2 4).2.2.symm.trans r4
  · exact ((heq 1 (by decide)).2.2 5).2.2.symm.trans r5
  · exact ((heq 1 (by decide)).2.2 6).2.2.symm.trans r6
  · exact ((heq 7 (by decide)).2.2 8).2.2.symm.trans r7
section
variable {d mi pc q : Nat} {lv : ve_V} {st : List Value} {h : ve_H} {Q : ve_O → ve_H → Prop}
theorem vx_newarr {t : ArrayType} {z : Nat} (hf : vx_at mi pc (.newarray t) q ∧ Nat.ble 20 (ve_nk t) = true ∧ Nat.ble (z * 8) 536870912 = true) (hr : ve_rk h z = true) (k : ∀ h1, h1 = ve_new h (ve_nk t) z → vx_W d mi q lv (.ref (ve_n h) :: st) h1 Q) : vx_W d mi pc lv (.int (vx_i z) :: st) h Q := by
  obtain ⟨hf, h20, hz⟩ := hf
  have hz2 := Nat.le_of_ble_eq_true hz
  refine vx_he hf rfl (st' := .ref (ve_n h) :: st) (h' := ve_new h (ve_nk t) z) ?_ (k _ rfl)
  unfold ve_he
  dsimp only
  unfold ve_h_newarray
  dsimp only
  have hn : (vx_i z).toNatClampNeg = z := by rw [vx_nat (by omega)]; omega
  rw [hn, h20, hr, hz]
  refine if_neg ?_
  intro hc
  have := (vx_i_lt (x := z) (y := 0) (by omega) (by omega)).mp hc
  omega
theorem vx_ctor {i : Instr} {how cm np n : Nat} {args rest : List Value} {h1 : ve_H} (hf : vx_at mi pc i q ∧ q = pc + 3 ∧ ve_ct i = 2 ∧ ve_as (ve_co (ve_ow mi)) (ve_ci i).1 = some (how, cm, np) ∧ ve_hw (ve_ci i).2 how = true ∧ vx_hc how = true) (hs : st = args.reverse ++ rest) (hl : args.length = np) (hw : Nat.ble (ve_wd rest) 20 = true) (hw2 : Nat.ble (ve_wd args) (ve_ml cm) = true) (hr : ((how.beq 4 || how.beq 14) || ve_rc h (ve_ow cm) args) = true)
    (k : ve_run n d cm 0 (ve_en args (ve_ml cm)) [] h = some (.inl none, h1)) (c : vx_W (d + 1) mi q lv rest h1 Q) : vx_W (d + 1) mi pc lv st h Q := by
  obtain ⟨hf, rfl, hc, hco, hhw, hh⟩ := hf
  subst hs
  have hlr : args.reverse.length = np := by rw [List.length_reverse]; exact hl
  have ht : (args.reverse ++ rest).take np = args.reverse := by rw [← hlr]; exact List.take_left
  have hd : (args.reverse ++ rest).drop np = rest := by rw [← hlr]; exact List.drop_left
  have hgo : ∀ (rc : ve_Rc), ve_F rc (d + 1) mi pc lv (args.reverse ++ rest) h = (match rc d cm 0 (ve_en args (ve_ml cm)) [] h with
                    | none => none
                    | some (.inl v, h') => rc (d + 1) mi (pc + 3) lv (v.toList ++ rest) h'
                    | some (.inr a, h') => match ve_hs mi with
                      | [] => some (.inr a, h')
                      | hs => match ve_hf hs pc (ve_k h' a) with
                        | some hp => rc (d + 1) mi hp lv [.ref a] h'
                        | none => none) := by
    intro rc
    unfold ve_F
    rw [hf.1]
    dsimp only
    rw [hc]
    show (match ve_as (ve_co (ve_ow mi)) (ve_ci i).1 with | none => none | some (how, cm, np) => _) = _
    rw [hco]
    dsimp only
    rw [hhw, ht, hd]
    have hw9 : (args.reverse.length.beq np && (Nat.ble (ve_wd rest) 20 && (Nat.ble (ve_wd args.reverse.reverse) (ve_ml cm) && ((how.beq 4 || how.beq 14) || ve_rc h (ve_ow cm) args.reverse.reverse)))) = true := by
      rw [List.reverse_reverse, vx_bt hlr, hw, hw2, hr]
      rfl
    clear hco hhw hr
    match how, hh, hw9 with
    | 0, hh, _ => cases hh
    | 1, hh, _ => cases hh
    | 2, hh, _ => cases hh
    | k + 3, _, hw9 =>
      rw [List.reverse_reverse] at hw9 ⊢
      show (bif args.reverse.length.beq np && (Nat.ble (ve_wd rest) 20 && (Nat.ble (ve_wd args) (ve_ml cm) && (((k + 3).beq 4 || (k + 3).beq 14) || ve_rc h (ve_ow cm) args))) then _ else none) = _
      rw [hw9]
      rfl
  obtain ⟨n2, o2, h2, hr2, hq2⟩ := c
  refine ⟨n + n2 + 1, o2, h2, ?_, hq2⟩
  rw [ve_run_S, hgo, ve_mono k n2, Nat.add_comm n n2]
  exact ve_mono hr2 n
end
theorem vx_rk_of {h : ve_H} {z : Nat} (h1 : ve_n h ≤ 600002) (h2 : ve_u h + z ≤ 7302232) : ve_rk h z = true := by
  unfold ve_rk
  rw [Bool.and_eq_true]
  exact ⟨Nat.ble_eq_true_of_le (by omega), Nat.ble_eq_true_of_le (by omega)⟩
theorem vx_prefix {L : Nat} {xs : Nat → Int32} {Q : ve_O → ve_H → Prop} (H : ∀ h hA, vx_two = some hA → ve_sm (fun a => a ≠ 0) (ve_h0 L xs) hA h → vx_S0 L xs h → vx_W 1000 216 23 [some (.ref 0), some (.ref 1), some (.ref 625), some (.ref 672), some (.int (vx_i 0)), none, none, none] [] h Q) : vx_W 1000 216 0 (ve_en [.ref 0] 8) [] (ve_h0 L xs) Q := by
  obtain ⟨h1, h2, e1, e2, hc, hn, hu, hn1, hu1, hq⟩ := vx_two_at
  obtain ⟨g1, f1, S1⟩ := ve_sm_run _ _ _ _ _ _ _ _ _ _ e1 ((vx_sm0 L xs).nw 1 13)
  obtain ⟨g2, f2, S2⟩ := ve_sm_run _ _ _ _ _ _ _ _ _ _ e2 (S1.nw 9 79)
  have S3 := S2.nw 21 1
  have hS := vx_chk_S0 hc hn hu S3
  have gn1 : ve_n g1 = 625 := by rw [← S1.1]; exact hn1
  have gu1 : ve_u g1 = 19926 := by rw [← S1.2.1]; exact hu1
  have gn2 : ve_n g2 = 672 := by have h9 : ve_n h2 + 1 = 673 := hn; rw [← S2.1]; omega
  have gu2 : ve_u g2 = 38721 := by have h9 : ve_u h2 + 1 = 38722 := hu; rw [← S2.2.1]; omega
  show vx_W 1000 216 0 [some (.ref 0), none, none, none, none, none, none, none] [] (ve_h0 L xs) Q
  refine vx_new (idx := 8) (kd := 1) (z := 13) (q := 3) (by decide +kernel) (vx_rk_of (by rw [ve_h0_n]; decide) (by rw [ve_h0_u]; decide)) (fun k1 q1 => ?_)
  subst q1
  refine vx_dupR (q := 4) (by decide +kernel) ?_
  refine vx_ctor (i := .invokespecial 41) (how := 5) (cm := 0) (np := 1) (q := 7) (args := [.ref (ve_n (ve_h0 L xs))]) (rest := [.ref (ve_n (ve_h0 L xs))]) (by decide +kernel) rfl rfl rfl (vx_w2 (w := 1) (ml := 1) rfl (by decide +kernel)) (vx_rcv (kd := 1) (by rw [ve_k_new, if_pos rfl]) (by decide +kernel)) (n := 8300) (h1 := g1) ?_ ?_
  · rw [show ve_ml 0 = 1 by decide +kernel]
    exact f1
  refine vx_astore_n (n := 1) (q := 8) (lv' := [some (.ref 0), some (.ref 1), none, none, none, none, none, none]) (by decide +kernel) rfl ?_
  refine vx_new (idx := 42) (kd := 9) (z := 79) (q := 11) (by decide +kernel) (vx_rk_of (by rw [gn1]; decide) (by rw [gu1]; decide)) (fun k1 q1 => ?_)
  subst q1
  rw [gn1]
  refine vx_dupR (q := 12) (by decide +kernel) ?_
  refine vx_ctor (i := .invokespecial 44) (how := 5) (cm := 18) (np := 1) (q := 15) (args := [.ref 625]) (rest := [.ref 625]) (by decide +kernel) rfl rfl rfl (vx_w2 (w := 1) (ml := 1) rfl (by decide +kernel)) (vx_rcv (kd := 9) (by rw [ve_k_new, if_pos gn1.symm]) (by decide +kernel)) (n := 300) (h1 := g2) ?_ ?_
  · rw [show ve_ml 18 = 1 by decide +kernel]
    exact f2
  refine vx_astore_n (n := 2) (q := 16) (lv' := [some (.ref 0), some (.ref 1), some (.ref 625), none, none, none, none, none]) (by decide +kernel) rfl ?_
  refine vx_iconst (n := 1) (q := 17) (by decide +kernel) ?_
  refine vx_newarr (t := .long) (z := 1) (q := 19) (by decide +kernel) (vx_rk_of (by rw [gn2]; decide) (by rw [gu2]; decide)) (fun k1 q1 => ?_)
  subst q1
  rw [gn2]
  refine vx_astore_n (n := 3) (q := 20) (lv' := [some (.ref 0), some (.ref 1), some (.ref 625), some (.ref 672), none, none, none, none]) (by decide +kernel) rfl ?_
  refine vx_iconst (n := 0) (q := 21) (by decide +kernel) ?_
  refine vx_istore (n := 4) (q := 23) (lv' := [some (.ref 0), some (.ref 1), some (.ref 625), some (.ref 672), some (.int (vx_i 0)), none, none, none]) (by decide +kernel) rfl ?_
  exact H _ _ hq S3 hS
