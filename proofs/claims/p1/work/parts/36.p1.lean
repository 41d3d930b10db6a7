/-! p1: one turn at the start -/
noncomputable def vq_pr (hA : ve_H) (e : Int32) (n1 mc : Nat) (ac : List Value) (lc n2 mr : Nat) (ar : List Value) (lr : Nat) : Bool := match ve_run n1 999 mc 0 (ve_en ac lc) [] hA with
  | some (.inl (some (.int r)), h1) => (match ve_run n2 999 mr 0 (ve_en ar lr) [] h1 with
    | some (.inl (some (.int b)), h2) => decide (r = e) && (decide (ve_I h2 625 0 = e) && decide ((ve_L h2 672 0).toInt = b.toInt))
    | _ => false)
  | _ => false
noncomputable def vq_p1 (hA : ve_H) : Bool := match ve_run 9000 999 209 0 (ve_en [.ref 1, .ref 672] 3) [] hA with
  | some (.inl (some (.int r)), h1) => decide (r = 0) && (decide (ve_I h1 625 2 = 0) && (decide (ve_I h1 625 11 = 0) && decide (ve_L h1 672 0 = 0)))
  | _ => false
noncomputable def vq_all (hA : ve_H) : Bool := (vq_pr hA 1 9000 210 [.ref 1, .int (vx_i 0), .ref 672] 4 9000 63 [.ref 625, .int (vx_i 0)] 6 && vq_pr hA 1 9000 210 [.ref 1, .int (vx_i 1), .ref 672] 4 9000 63 [.ref 625, .int (vx_i 1)] 6) && ((vq_pr hA 0 9000 211 [.ref 1, .ref 672] 3 9000 91 [.ref 625] 3 && vq_pr hA 1 9000 212 [.ref 1, .ref 672] 3 9000 94 [.ref 625] 4) && vq_p1 hA)
set_option maxRecDepth 100000 in
theorem vq_closed : (match vx_two with | some h => vq_all h | none => false) = true := by decide +kernel
theorem vq_at {hA : ve_H} (e : vx_two = some hA) : vq_all hA = true := by
  have h := vq_closed
  rw [e] at h
  exact h
theorem vq_pr_at {hA : ve_H} {e : Int32} {n1 mc lc n2 mr lr : Nat} {ac ar : List Value} (hc : vq_pr hA e n1 mc ac lc n2 mr ar lr = true) : ∃ h1 h2 b, ve_run n1 999 mc 0 (ve_en ac lc) [] hA = some (.inl (some (.int e)), h1) ∧ ve_run n2 999 mr 0 (ve_en ar lr) [] h1 = some (.inl (some (.int b)), h2) ∧ ve_I h2 625 0 = e ∧ (ve_L h2 672 0).toInt = b.toInt := by
  unfold vq_pr at hc
  split at hc
  · rename_i r h1 e1
    split at hc
    · rename_i b h2 e2
      simp only [Bool.and_eq_true, decide_eq_true_eq] at hc
      obtain ⟨rfl, q2, q3⟩ := hc
      exact ⟨h1, h2, b, e1, e2, q2, q3⟩
    · cases hc
  · cases hc
theorem vq_tr {n d mi ml : Nat} {args : List Value} {x : Int} {hA hB h B : ve_H} {P : Nat → Prop} (hm : ve_ml mi = ml) (hx : vx_rI x) (e : ve_run n d mi 0 (ve_en args ml) [] hA = some (.inl (some (.int (vx_i x))), hB)) (S : ve_sm P B hA h) : vx_CI d mi args h (fun r h1 => r = x ∧ ve_sm P B hB h1) := by
  obtain ⟨h1, f, S1⟩ := ve_sm_run _ _ _ _ _ _ _ _ _ _ e S
  exact vx_enter hm ⟨n, _, h1, f, x, rfl, hx, rfl, S1⟩
theorem vq_pair {L : Nat} {xs : Nat → Int32} {hA h B : ve_H} {x : Int} {n1 mc lc n2 mr lr : Nat} {ac ar : List Value} (hc : vq_pr hA (vx_i x) n1 mc ac lc n2 mr ar lr = true) (hx : vx_rI x) (hm : ve_ml mc = lc) (hm2 : ve_ml mr = lr) (S : ve_sm (fun a => a ≠ 0) B hA h) :
    vx_CI 999 mc ac h (fun r h1 => vx_TL L xs h1 → vx_CI 999 mr ar h1 (fun b h2 => vx_TL L xs h2 → r = x ∧ vx_J h2 625 0 = r ∧ vx_K h2 672 0 = b)) := by
  obtain ⟨h1, h2, b, e1, e2, q2, q3⟩ := vq_pr_at hc
  refine vx_CI_mono (vq_tr hm hx e1 S) ?_
  rintro r g1 _ ⟨rfl, S1⟩ T1
  have e2' : ve_run n2 999 mr 0 (ve_en ar lr) [] h1 = some (.inl (some (.int (vx_i b.toInt))), h2) := by rw [vx_i_of]; exact e2
  refine vx_CI_mono (vq_tr hm2 (vx_rI_toInt b) e2' S1) ?_
  rintro r2 g2 _ ⟨rfl, S2⟩ T2
  refine ⟨rfl, ?_, ?_⟩
  · show (ve_I g2 625 0).toInt = r
    rw [← ((S2.2.2.1 625 (by decide)).2.2 0).1, q2, vx_i_toInt hx]
  · show (ve_L g2 672 0).toInt = b.toInt
    rw [← ((S2.2.2.1 672 (by decide)).2.2 0).2.1]
    exact q3
abbrev vq_T : ve_H → Prop := fun _ => True
theorem vx_S0J {L : Nat} {xs : Nat → Int32} {h : ve_H} (S : vx_S0 L xs h) {a i : Nat} {v : Int} (hc : (Nat.ble 1 a && (Nat.blt a 673 && (Nat.blt i (vx_za a) && ((Nat.blt (vx_ka a) 20 || (vx_za a).beq 2) && decide ((vx_ii a i).toInt = v))))) = true) : vx_J h a i = v := by
  simp only [Bool.and_eq_true, decide_eq_true_eq, Bool.or_eq_true] at hc
  obtain ⟨h1, h2, h3, h4, h5⟩ := hc
  show (ve_I h a i).toInt = v
  rw [S.2.2.2.1 a i (Nat.le_of_ble_eq_true h1) (Nat.le_of_ble_eq_true h2) (Nat.le_of_ble_eq_true h3) (h4.elim (fun q => Or.inl (Nat.le_of_ble_eq_true q)) (fun q => Or.inr (Or.inr (Or.inr (Nat.eq_of_beq_eq_true q)))))]
  exact h5
section
variable {L : Nat} {xs : Nat → Int32} {h hA : ve_H}
theorem vq_rk (S : vx_S0 L xs h) : ve_rk h 6 = true := vx_rk_of (by rw [S.2.1]; decide) (by rw [S.2.2.1]; decide)
theorem vq_0 (S : vx_S0 L xs h) (w n : Int) (hw : vx_rL w) (hn : vx_rI n) : vl_I 999 L xs vq_T 1 21 [.long (vx_l w), .int (vx_i n)] h := by
  refine vx_CI_mono (vc_1 (d := 998) hw hn (len := 0) (by omega) (vx_TLC S.1) (vx_S0J S (by decide +kernel))) (fun r h1 _ p T1 => ?_)
  refine vx_CI_mono (vc_21 hw hn (len := 0) (by omega) (vx_TLT T1) ((vx_fr_J p.1 (by omega)).trans (vx_S0J S (by decide +kernel)))) (fun r2 h2 _ p2 T2 => ?_)
  exact ⟨vc_tP_eq p p2, trivial⟩
theorem vq_1 (S : vx_S0 L xs h) (e : vx_two = some hA) (M : ve_sm (fun a => a ≠ 0) (ve_h0 L xs) hA h) (hm : ve_ml 209 = 3) : vl_X 999 L xs vq_T 209 62 [] h := by
  have hc := vq_at e
  unfold vq_all at hc
  simp only [Bool.and_eq_true] at hc
  have h1 := hc.2.2
  unfold vq_p1 at h1
  split at h1
  · rename_i r hB e1
    simp only [Bool.and_eq_true, decide_eq_true_eq] at h1
    obtain ⟨rfl, z1, z2, z3⟩ := h1
    refine vx_CI_mono (vq_tr (x := 0) hm (by omega) e1 M) ?_
    rintro r g1 _ ⟨rfl, S1⟩ T1
    have y1 : vx_J g1 625 2 = 0 := by
      show (ve_I g1 625 2).toInt = 0
      rw [← ((S1.2.2.1 625 (by decide)).2.2 2).1, z1]; rfl
    have y2 : vx_J g1 625 11 = 0 := by
      show (ve_I g1 625 11).toInt = 0
      rw [← ((S1.2.2.1 625 (by decide)).2.2 11).1, z2]; rfl
    have y3 : vx_K g1 672 0 = 0 := by
      show (ve_L g1 672 0).toInt = 0
      rw [← ((S1.2.2.1 672 (by decide)).2.2 0).2.1, z3]; rfl
    refine vx_CI_mono (vq_62 (d := 996) (vx_TLT T1) y1 y2) ?_
    rintro b h2 _ ⟨rfl, j0, f⟩ T2
    exact ⟨j0, fun _ => (vx_fr_K f (by omega)).trans y3, trivial⟩
  · cases h1
theorem vq_2 (S : vx_S0 L xs h) (e : vx_two = some hA) (M : ve_sm (fun a => a ≠ 0) (ve_h0 L xs) hA h) (hm : ve_ml 210 = 4) (hm2 : ve_ml 63 = 6) (x : Int) (hx : vx_rI x) : vl_Z 999 L xs vq_T 210 63 [.int (vx_i x)] h := by
  have hc := vq_at e
  unfold vq_all at hc
  simp only [Bool.and_eq_true] at hc
  by_cases x0 : x = 0
  · subst x0
    refine vx_CI_mono (vq_pair (x := 1) hc.1.1 (by omega) hm hm2 M) (fun r h1 _ c T1 => vx_CI_mono (c T1) (fun b h2 _ p T2 => ?_))
    obtain ⟨p1, p2, p3⟩ := p T2
    exact ⟨p2, fun q => absurd q (by omega), trivial⟩
  by_cases x1 : x = 1
  · subst x1
    refine vx_CI_mono (vq_pair (x := 1) hc.1.2 (by omega) hm hm2 M) (fun r h1 _ c T1 => vx_CI_mono (c T1) (fun b h2 _ p T2 => ?_))
    obtain ⟨p1, p2, p3⟩ := p T2
    exact ⟨p2, fun q => absurd q (by omega), trivial⟩
  · refine vg_210 (d := 998) S.1.1 (vg_3 (d := 997) (vx_TLC S.1) ⟨hx, fun q => absurd q x0, fun _ => ⟨fun q => absurd q x1, fun _ => ?_⟩⟩)
    refine vg_193 (vx_TLC S.1) (fun h1 e1 T1 T1' h40 e40 T40 h41 e41 T41 => ⟨?_, fun h42 e42 T42 T42' => Or.inl ⟨rfl, fun TL => ?_⟩⟩)
    · subst e41 e40 e1
      exact (vq_rk S : ve_rk h 6 = true)
    · refine vg_63 (d := 998) (vx_TLT TL) (fun k1 f1 U1 => ⟨hx, fun _ k4 f4 U4 k5 f5 U5 k6 f6 U6 T => ⟨?_, fun q => absurd q (by omega), trivial⟩, fun q => ⟨fun q2 => absurd q2 (by omega), fun _ k4 f4 U4 k5 f5 U5 k6 f6 U6 T => ⟨?_, fun q => absurd q (by omega), trivial⟩⟩⟩)
      · rw [f6, vx_J_ne (by omega), f5, vx_J_ne (by omega), f4, vx_J_ne (by omega), f1, vx_J_eq (by omega)]
      · rw [f6, vx_J_ne (by omega), f5, vx_J_ne (by omega), f4, vx_J_ne (by omega), f1, vx_J_eq (by omega)]
theorem vq_3 (S : vx_S0 L xs h) (x : Int) (hx : vx_rI x) : vl_I 999 L xs vq_T 4 64 [.int (vx_i x)] h := by
  have a11 : vx_J h 1 11 = 0 := vx_S0J S (by decide +kernel)
  have a12 : vx_J h 1 12 = 0 := vx_S0J S (by decide +kernel)
  have b3 : vx_J h 625 3 = 0 := vx_S0J S (by decide +kernel)
  have b4 : vx_J h 625 4 = 0 := vx_S0J S (by decide +kernel)
  refine vg_4 (vx_TLC S.1) ⟨hx, fun x0 => ⟨fun x1 T1 => ?_, fun x1 T1 => ?_⟩, fun x0 T1 => ?_⟩
  · exact vg_64 (vx_TLT T1) (fun h1 e1 U1 => ⟨hx, fun _ => ⟨fun _ _ => ⟨rfl, trivial⟩, fun q => absurd q x1⟩, fun q => absurd q x0⟩)
  · refine vg_64 (vx_TLT T1) (fun h1 e1 U1 => ⟨hx, fun _ => ⟨fun q => absurd x1 q, fun _ _ => ⟨?_, trivial⟩⟩, fun q => absurd q x0⟩)
    rw [a12, e1, vx_J_ne (by omega), b4]
  · refine vg_64 (vx_TLT T1) (fun h1 e1 U1 => ⟨hx, fun q => absurd x0 q, fun _ _ => ⟨?_, trivial⟩⟩)
    rw [a11, e1, vx_J_ne (by omega), b3]
theorem vq_4 (e : vx_two = some hA) (M : ve_sm (fun a => a ≠ 0) (ve_h0 L xs) hA h) (hm : ve_ml 211 = 3) (hm2 : ve_ml 91 = 3) : vl_X 999 L xs vq_T 211 91 [] h := by
  have hc := vq_at e
  unfold vq_all at hc
  simp only [Bool.and_eq_true] at hc
  refine vx_CI_mono (vq_pair (x := 0) hc.2.1.1 (by omega) hm hm2 M) (fun r h1 _ c T1 => vx_CI_mono (c T1) (fun b h2 _ p T2 => ?_))
  obtain ⟨p1, p2, p3⟩ := p T2
  exact ⟨p2, fun _ => p3, trivial⟩
theorem vq_5 (e : vx_two = some hA) (M : ve_sm (fun a => a ≠ 0) (ve_h0 L xs) hA h) (hm : ve_ml 212 = 3) (hm2 : ve_ml 94 = 4) : vl_X 999 L xs vq_T 212 94 [] h := by
  have hc := vq_at e
  unfold vq_all at hc
  simp only [Bool.and_eq_true] at hc
  refine vx_CI_mono (vq_pair (x := 1) hc.2.1.2 (by omega) hm hm2 M) (fun r h1 _ c T1 => vx_CI_mono (c T1) (fun b h2 _ p T2 => ?_))
  obtain ⟨p1, p2, p3⟩ := p T2
  exact ⟨p2, fun _ => p3, trivial⟩
theorem vq_6 (S : vx_S0 L xs h) (x y : Int) (hx : vx_rI x) (hy : vx_rI y) : vl_L 999 L xs vq_T 213 95 [.int (vx_i x), .int (vx_i y)] h := by
  have a4 : vx_J h 617 4 = 0 := vx_S0J S (by decide +kernel)
  have b38 : vx_J h 625 38 = 0 := vx_S0J S (by decide +kernel)
  have R : ∀ h1, h1 = ve_new h 12 6 → vx_TL L xs h1 → vx_CL 999 95 [.ref 625, .int (vx_i x), .int (vx_i y)] h1 (fun b h2 => vx_TL L xs h2 → vx_J h2 625 0 = 1 ∧ ((1 : Int) = 0 → vx_K h2 672 0 = b) ∧ vq_T h2) := by
    intro h1 e1 T1
    have c38 : vx_J h1 625 38 = 0 := by rw [e1]; exact b38
    refine vg_95 (vx_TLT T1) ⟨hx, fun _ h3 e3 T3 _ => ⟨?_, fun q => absurd q (by omega), trivial⟩, fun q => ⟨fun _ h3 e3 T3 _ => ⟨?_, fun q => absurd q (by omega), trivial⟩, fun q2 => absurd q2 (by omega)⟩⟩
    · rw [e3, vx_J_eq (by omega)]
    · rw [e3, vx_J_eq (by omega)]
  refine vg_213 (d := 998) S.1.1 (vg_7 (d := 997) (vx_TLC S.1) ⟨hx, fun _ => ⟨vq_rk S, fun h1 e1 T1 T1' => ⟨rfl, fun TL => R h1 e1 TL⟩⟩, fun q => ⟨617, S.2.2.2.2.2.2.1, by decide +kernel, fun _ => ⟨vq_rk S, fun h1 e1 T1 T1' => ⟨rfl, fun TL => R h1 e1 TL⟩⟩, fun q2 => absurd q2 (by omega)⟩⟩)
theorem vq_7 (S : vx_S0 L xs h) (x : Int) (hx : vx_rI x) : vl_I 999 L xs vq_T 8 97 [.int (vx_i x)] h := by
  have r3 : ve_R h 1 3 = some 39 := S.2.2.2.2.1
  have r5 : ve_R h 1 5 = some 617 := S.2.2.2.2.2.2.1
  have o5 : vx_o 1 625 5 39 := by decide +kernel
  have o6 : vx_o 1 625 6 617 := by decide +kernel
  have w5 : vx_r 39 5 = 45 := by decide +kernel
  have a7 : vx_J h 1 7 = 0 := vx_S0J S (by decide +kernel)
  have a617 : vx_J h 617 4 = 0 := vx_S0J S (by decide +kernel)
  have a6 : vx_J h 39 6 = 0 := vx_S0J S (by decide +kernel)
  have a77 : vx_J h 39 7 = 0 := vx_S0J S (by decide +kernel)
  have a45 : vx_J h 45 4 = 0 := vx_S0J S (by decide +kernel)
  have a8 : vx_J h 1 8 = 1 := vx_S0J S (by decide +kernel)
  have a23 : vx_J h 23 4 = 0 := vx_S0J S (by decide +kernel)
  have a88 : vx_J h 39 8 = 0 := vx_S0J S (by decide +kernel)
  have a9 : vx_J h 1 9 = 0 := vx_S0J S (by decide +kernel)
  have R : ∀ (r : Int) (T1 : vx_TL L xs h), (x = 5 → r = 1) → (x ≠ 5 → 0 ≤ x → x ≤ 8 → r = 0) → (x < 0 ∨ 8 < x → r = -1) → vx_CI 999 97 [.ref 625, .int (vx_i x)] h (fun r2 h2 => vx_TL L xs h2 → r = r2 ∧ vq_T h2) := by
    intro r T1 c1 c2 c3
    refine vg_97 (d := 998) (vx_TLT T1) (fun h1 e1 U1 => ?_)
    have z : ∀ a k, ¬ (a = 625 ∧ k = 0) → vx_J h1 a k = vx_J h a k := fun a k q => by rw [e1, vx_J_ne q]
    have b39 : vx_J h1 625 39 = 0 := (z _ _ (by omega)).trans (vx_S0J S (by decide +kernel))
    have b38 : vx_J h1 625 38 = 0 := (z _ _ (by omega)).trans (vx_S0J S (by decide +kernel))
    have b11 : vx_J h1 625 11 = 0 := (z _ _ (by omega)).trans (vx_S0J S (by decide +kernel))
    have b631 : vx_J h1 631 0 = 0 := (z _ _ (by omega)).trans (vx_S0J S (by decide +kernel))
    have b635 : vx_J h1 635 0 = 0 := (z _ _ (by omega)).trans (vx_S0J S (by decide +kernel))
    have b647 : vx_J h1 647 0 = 0 := (z _ _ (by omega)).trans (vx_S0J S (by decide +kernel))
    have b31 : vx_J h1 625 31 = 1 := (z _ _ (by omega)).trans (vx_S0J S (by decide +kernel))
    have b32 : vx_J h1 625 32 = 0 := (z _ _ (by omega)).trans (vx_S0J S (by decide +kernel))
    have b36 : vx_J h1 625 36 = 0 := (z _ _ (by omega)).trans (vx_S0J S (by decide +kernel))
    have q0 : (0 : Int).toNat = 0 := rfl
    rw [b11, q0, b39, b38, b631, b635, b647, b31, b32, b36]
    refine ⟨hx, fun q _ => ⟨c2 (by omega) (by omega) (by omega), trivial⟩, fun q _ => ⟨c2 (by omega) (by omega) (by omega), trivial⟩, fun q => ⟨by omega, fun _ => ⟨c2 (by omega) (by omega) (by omega), trivial⟩⟩, fun q => ⟨by omega, fun _ => ⟨c2 (by omega) (by omega) (by omega), trivial⟩⟩, fun q => ⟨by omega, fun _ => ⟨c2 (by omega) (by omega) (by omega), trivial⟩⟩, fun q _ => ⟨c1 q, trivial⟩, fun q => ⟨fun q => absurd rfl q, fun _ _ => ⟨c2 (by omega) (by omega) (by omega), trivial⟩⟩, fun q => ?_, fun q _ => ⟨c2 (by omega) (by omega) (by omega), trivial⟩, fun q _ => ⟨c3 (by omega), trivial⟩⟩
    refine vg_89 U1 ?_
    rw [b11]
    refine vg_89_10 U1 ?_
    rw [b11, q0, b631]
    exact ⟨by omega, by omega, by omega, fun _ => ⟨by omega, fun _ _ => ⟨c2 (by omega) (by omega) (by omega), trivial⟩⟩, fun q => absurd q (by omega)⟩
  refine vg_8 (vx_TLC S.1) ⟨hx, fun q T => R _ T (by omega) (by omega) (by omega), fun q => ⟨617, r5, o6, fun T => R _ T (by omega) (by omega) (by omega)⟩, fun q => ⟨39, r3, o5, fun T => R _ T (by omega) (by omega) (by omega)⟩, fun q => ⟨39, r3, o5, fun T => R _ T (by omega) (by omega) (by omega)⟩, fun q => ⟨39, r3, o5, fun T => R _ T (by rw [w5]; omega) (by rw [w5]; omega) (by rw [w5]; omega)⟩, fun q T => R _ T (by omega) (by omega) (by omega), fun q => ⟨fun q2 => absurd a8 q2, fun _ T => R _ T (by omega) (by omega) (by omega)⟩, fun q => ⟨39, r3, o5, fun T => R _ T (by omega) (by omega) (by omega)⟩, fun q T => R _ T (by omega) (by omega) (by omega), fun q T => R _ T (by omega) (by omega) (by omega)⟩
theorem vq_8 (S : vx_S0 L xs h) (x y : Int) (hx : vx_rI x) (hy : vx_rI y) : vl_I 999 L xs vq_T 9 99 [.int (vx_i x), .int (vx_i y)] h := by
  have r3 : ve_R h 1 3 = some 39 := S.2.2.2.2.1
  have o5 : vx_o 1 625 5 39 := by decide +kernel
  have a6 : vx_J h 39 6 = 0 := vx_S0J S (by decide +kernel)
  have R : ∀ (T1 : vx_TL L xs h), vx_CI 999 99 [.ref 625, .int (vx_i x), .int (vx_i y)] h (fun r2 h2 => vx_TL L xs h2 → -1 = r2 ∧ vq_T h2) := by
    intro T1
    refine vg_99 (d := 998) (vx_TLT T1) (fun h1 e1 U1 => ?_)
    have b11 : vx_J h1 625 11 = 0 := by rw [e1, vx_J_ne (by omega)]; exact vx_S0J S (by decide +kernel)
    have b631 : vx_J h1 631 0 = 0 := by rw [e1, vx_J_ne (by omega)]; exact vx_S0J S (by decide +kernel)
    have q0 : (0 : Int).toNat = 0 := rfl
    rw [b11, q0, b631]
    exact ⟨hx, fun _ _ => ⟨rfl, trivial⟩, fun q => ⟨by omega, fun q2 => absurd q2 (by omega), fun _ _ => ⟨rfl, trivial⟩⟩⟩
  refine vg_9 (d := 998) (vx_TLC S.1) ⟨hx, fun _ T => R T, fun q => ⟨39, r3, o5, fun q2 => absurd q2 (by omega), fun _ T => R T⟩⟩
theorem vq_13 (S : vx_S0 L xs h) {d : Nat} (x : Int) (hx : vx_rI x) : vx_CI d 13 [.ref 1, .int (vx_i x)] h (fun r h1 => r = 0 ∧ h1 = h) := by
  have a6 : vx_J h 39 6 = 0 := vx_S0J S (by decide +kernel)
  exact vg_13 (vx_TLC S.1) ⟨hx, fun _ => ⟨rfl, rfl⟩, fun q => ⟨39, S.2.2.2.2.1, by decide +kernel, fun _ => ⟨rfl, rfl⟩, fun q2 => absurd q2 (by omega)⟩⟩
theorem vq_9 (S : vx_S0 L xs h) (x y z : Int) (hx : vx_rI x) (hy : vx_rI y) (hz : vx_rI z) : vl_L 999 L xs vq_T 214 102 [.int (vx_i x), .int (vx_i y), .int (vx_i z)] h := by
  have R : ∀ h1, h1 = ve_new h 12 6 → vx_TL L xs h1 → vx_CL 999 102 [.ref 625, .int (vx_i x), .int (vx_i y), .int (vx_i z)] h1 (fun b h2 => vx_TL L xs h2 → vx_J h2 625 0 = 1 ∧ ((1 : Int) = 0 → vx_K h2 672 0 = b) ∧ vq_T h2) := by
    intro h1 e1 T1
    have b11 : vx_J h1 625 11 = 0 := by rw [e1]; exact vx_S0J S (by decide +kernel)
    have b631 : vx_J h1 631 0 = 0 := by rw [e1]; exact vx_S0J S (by decide +kernel)
    have q0 : (0 : Int).toNat = 0 := rfl
    refine vg_102 (d := 998) (vx_TLT T1) ?_
    rw [b11, q0, b631]
    refine ⟨hx, fun _ h3 e3 T3 _ => ⟨?_, fun q => absurd q (by omega), trivial⟩, fun q => ⟨by omega, fun q2 => absurd q2 (by omega), fun _ h3 e3 T3 _ => ⟨?_, fun q => absurd q (by omega), trivial⟩⟩⟩
    · rw [e3, vx_J_eq (by omega)]
    · rw [e3, vx_J_eq (by omega)]
  refine vg_214 (d := 998) S.1.1 (vg_10 (d := 997) (vx_TLC S.1) ⟨hy, fun _ => ⟨vq_rk S, fun h1 e1 T1 T1' => ⟨rfl, fun TL => R h1 e1 TL⟩⟩, fun q => vx_CI_mono (vq_13 S x hx) ?_⟩)
  rintro r h1 _ ⟨rfl, rfl⟩ T1
  exact ⟨fun _ => ⟨vq_rk S, fun h2 e2 T2 T2' => ⟨rfl, fun TL => R h2 e2 TL⟩⟩, fun q2 => absurd q2 (by omega)⟩
theorem vq_10 (S : vx_S0 L xs h) (x y : Int) (hx : vx_rI x) (hy : vx_rI y) : vl_X 999 L xs vq_T 215 103 [.int (vx_i x), .int (vx_i y)] h := by
  have R : ∀ h1, h1 = ve_new h 12 6 → vx_TL L xs h1 → vx_CI 999 103 [.ref 625, .int (vx_i x), .int (vx_i y)] h1 (fun b h2 => vx_TL L xs h2 → vx_J h2 625 0 = 1 ∧ ((1 : Int) = 0 → vx_K h2 672 0 = b) ∧ vq_T h2) := by
    intro h1 e1 T1
    have b11 : vx_J h1 625 11 = 0 := by rw [e1]; exact vx_S0J S (by decide +kernel)
    have b631 : vx_J h1 631 0 = 0 := by rw [e1]; exact vx_S0J S (by decide +kernel)
    have q0 : (0 : Int).toNat = 0 := rfl
    refine vg_103 (d := 998) (vx_TLT T1) ?_
    rw [b11, q0, b631]
    refine ⟨hx, fun _ h3 e3 T3 _ => ⟨?_, fun q => absurd q (by omega), trivial⟩, fun q => ⟨by omega, fun q2 => absurd q2 (by omega), fun _ h3 e3 T3 _ => ⟨?_, fun q => absurd q (by omega), trivial⟩⟩⟩
    · rw [e3, vx_J_eq (by omega)]
    · rw [e3, vx_J_eq (by omega)]
  refine vg_215 (d := 998) S.1.1 (vg_11 (d := 997) (vx_TLC S.1) ⟨hy, fun _ => ⟨vq_rk S, fun h1 e1 T1 T1' => ⟨rfl, fun TL => R h1 e1 TL⟩⟩, fun q => vx_CI_mono (vq_13 S x hx) ?_⟩)
  rintro r h1 _ ⟨rfl, rfl⟩ T1
  exact ⟨fun q2 => absurd q2 (by omega), fun _ => ⟨vq_rk S, fun h2 e2 T2 T2' => ⟨rfl, fun TL => R h2 e2 TL⟩⟩⟩
end
theorem vq_m209 : ve_ml 209 = 3 := by decide +kernel
theorem vq_m210 : ve_ml 210 = 4 := by decide +kernel
theorem vq_m211 : ve_ml 211 = 3 := by decide +kernel
theorem vq_m212 : ve_ml 212 = 3 := by decide +kernel
theorem vq_m63 : ve_ml 63 = 6 := by decide +kernel
theorem vq_m91 : ve_ml 91 = 3 := by decide +kernel
theorem vq_m94 : ve_ml 94 = 4 := by decide +kernel
theorem vq_main {L : Nat} {xs : Nat → Int32} (hL : L ≤ 4) : vx_W 1000 216 0 (ve_en [.ref 0] 8) [] (ve_h0 L xs) (fun o _ => o = .inl (some (.int (vx_i 1)))) := by
  refine vx_prefix (fun h hA e M S => ?_)
  refine vl_turn (d := 999) (k := 0) (I' := vq_T) (by omega) S.1 (vq_0 S _ _ (vx_rL_toInt _) (vx_rI_toInt _)) (vq_1 S e M vq_m209) (vq_2 S e M vq_m210 vq_m63 _ (vx_rI_toInt _)) (vq_3 S _ (vx_rI_toInt _)) (vq_4 e M vq_m211 vq_m91) (vq_5 e M vq_m212 vq_m94) (vq_6 S _ _ (vx_rI_toInt _) (vx_rI_toInt _)) (vq_7 S _ (vx_rI_toInt _)) (vq_8 S _ _ (vx_rI_toInt _) (vx_rI_toInt _)) (vq_9 S _ _ _ (vx_rI_toInt _) (vx_rI_toInt _) (vx_rI_toInt _)) (vq_10 S _ _ (vx_rI_toInt _) (vx_rI_toInt _)) trivial (by omega) (fun _ => rfl) (fun h1 u5 u6 u7 hk T1 _ => ?_)
  refine vg_law (by omega) T1 ⟨by omega, by omega, fun _ => rfl, fun q => absurd q (by omega)⟩
