/-! Reading terms: the reference -/
/-- a value of the class's and of the reference's -/
def vy_vr (t v : Int) : Prop := (t = v ∧ -2147483648 ≤ v ∧ v < 2147483648) ∨ (∃ u, vt_vs u ∧ v = 72057594037927936 + u ∧ t = 72057594037927936 + vt_lf u)
def vy_tr (t kd v : Int) : Prop := (kd = 0 ∧ vy_vr t v) ∨ (kd = 1 ∧ t = 144115188075855872 + v ∧ 0 ≤ v ∧ v < 8) ∨ (kd = 2 ∧ t = 288230376151711744)
def vy_rb (h : ve_H) (ts : vy_T) (cl i : Nat) (V : vy_V) : Prop := vt_kr h 0 ts ∧ vx_J h 625 10 = i ∧ i < ts.length ∧ vx_J h 625 42 = cl ∧ cl < 61 ∧ vx_J h 642 cl = V.1 ∧ V.1 ≤ 8 ∧ ∀ v, v < V.1 → vt_vs (vx_K h 655 v) ∧ V.2.1 v = 72057594037927936 + vt_lf (vx_K h 655 v) ∧ vx_J h 656 v = V.2.2 v
def vy_rx (h h1 : ve_H) : Prop := vx_J h1 625 3 = vx_J h 625 3 ∧ vx_J h1 625 4 = vx_J h 625 4
def vy_rbad (p : Int) (h : ve_H) : Prop := vx_J h 625 3 = 1 ∧ vx_J h 625 4 = p
theorem vx_lor56 {v : Int} (hv : 0 ≤ v ∧ v < 281474976710656) : vx_lor v 72057594037927936 = v + 72057594037927936 := by
  have ha : (vx_l v).toBitVec = BitVec.ofNat 64 v.toNat := by
    show BitVec.ofInt 64 v = _
    rw [← Int.toNat_of_nonneg hv.1]
    rfl
  have hb : (vx_l 72057594037927936).toBitVec = BitVec.ofNat 64 (2 ^ 56 * 1) := by decide
  have ho : (vx_l v ||| vx_l 72057594037927936).toBitVec = (vx_l v).toBitVec ||| (vx_l 72057594037927936).toBitVec := Int64.toBitVec_or ..
  show (vx_l v ||| vx_l 72057594037927936).toBitVec.toInt = _
  rw [ho, ha, hb]
  have hn : (BitVec.ofNat 64 v.toNat ||| BitVec.ofNat 64 (2 ^ 56 * 1)).toNat = 2 ^ 56 * 1 + v.toNat := by
    rw [BitVec.toNat_or, BitVec.toNat_ofNat, BitVec.toNat_ofNat, Nat.mod_eq_of_lt (show v.toNat < 2 ^ 64 by omega), Nat.mod_eq_of_lt (show 2 ^ 56 * 1 < 2 ^ 64 by decide), Nat.or_comm]
    exact (Nat.two_pow_add_eq_or_of_lt (i := 56) (b := v.toNat) (by omega) 1).symm
  rw [BitVec.toInt_eq_toNat_cond, hn]
  split <;> omega
section
variable {d i cl : Nat} {h : ve_H} {ts : vy_T} {V : vy_V} {x y : Int}
theorem vy_kr (K : vt_kr h 0 ts) (hi : i < ts.length) : vx_J h 628 i = vy_p ts i ∧ vt_rt (vy_k ts i) (vy_v ts i) (vx_J h 627 i) (vx_J h 629 i) (vx_K h 630 i) := by
  have := K i hi
  rw [Nat.zero_add] at this
  exact this
theorem vy_kr_fr {h1 : ve_H} {S : Nat → Nat → Prop} (K : vt_kr h 0 ts) (f : vx_fr S h h1) (hs : ∀ k, ¬ S 627 k ∧ ¬ S 628 k ∧ ¬ S 629 k ∧ ¬ S 630 k) : vt_kr h1 0 ts := by
  intro j hj
  rw [vx_fr_J f (hs _).1, vx_fr_J f (hs _).2.1, vx_fr_J f (hs _).2.2.1, vx_fr_K f (hs _).2.2.2]
  exact K j hj
theorem vy_rb_fr {h1 : ve_H} {S : Nat → Nat → Prop} (B : vy_rb h ts cl i V) (f : vx_fr S h h1) (hs : ∀ k, ¬ S 627 k ∧ ¬ S 628 k ∧ ¬ S 629 k ∧ ¬ S 630 k ∧ ¬ S 642 k ∧ ¬ S 655 k ∧ ¬ S 656 k) (h10 : ¬ S 625 10) (h42 : ¬ S 625 42) : vy_rb h1 ts cl i V := by
  obtain ⟨b1, b2, b3, b4, b5, b6, b7, b8⟩ := B
  refine ⟨vy_kr_fr b1 f (fun k => ⟨(hs k).1, (hs k).2.1, (hs k).2.2.1, (hs k).2.2.2.1⟩), (vx_fr_J f h10).trans b2, b3, (vx_fr_J f h42).trans b4, b5, (vx_fr_J f (hs _).2.2.2.2.1).trans b6, b7, fun v hv => ?_⟩
  rw [vx_fr_K f (hs _).2.2.2.2.2.1, vx_fr_J f (hs _).2.2.2.2.2.2]
  exact b8 v hv
theorem vy_rb_at {h1 : ve_H} {j : Nat} (B : vy_rb h ts cl i V) (e : h1 = vx_sJ h 625 10 y) (hy : y = j) (hj : j < ts.length) (hr : vx_rI y) : vy_rb h1 ts cl j V := by
  obtain ⟨b1, b2, b3, b4, b5, b6, b7, b8⟩ := B
  have f : vx_fr (fun a k => a = 625 ∧ k = 10) h h1 := vx_fr_sJ vx_fr_refl e ⟨rfl, rfl⟩
  refine ⟨vy_kr_fr b1 f (fun k => by omega), by rw [e, vx_J_eq hr, hy], hj, (vx_fr_J f (by omega)).trans b4, b5, (vx_fr_J f (by omega)).trans b6, b7, fun v hv => ?_⟩
  rw [vx_fr_K f (by omega), vx_fr_J f (by omega)]
  exact b8 v hv
abbrev vy_Sb (a k : Nat) : Prop := a = 625 ∧ (k = 3 ∨ k = 4)
theorem vc_32 (hT : vx_T 625 672 h) (hx : vx_rI x) (h3 : vx_J h 625 3 ≠ 1) : vx_CI d 32 [.ref 625, .int (vx_i x)] h (fun r h1 => r = 0 ∧ vx_fr vy_Sb h h1 ∧ vy_rbad x h1) := by
  refine vg_32 hT ⟨fun q => absurd q h3, fun _ h2 e2 T2 h3 e3 T3 => ⟨rfl, vx_fr_sJ (vx_fr_sJ vx_fr_refl e2 (by omega)) e3 (by omega), ?_, ?_⟩⟩
  · rw [e3, vx_J_ne (by omega), e2, vx_J_eq (by omega)]
  · rw [e3, vx_J_eq hx]
theorem vc_33 (hT : vx_T 625 672 h) (ok : vy_ok ts) (B : vy_rb h ts cl i V) (h3 : vx_J h 625 3 ≠ 1) : vx_CI (d + 1) 33 [.ref 625] h (fun r h1 => r = 0 ∧ vx_fr vy_Sb h h1 ∧ vy_rbad (vy_p ts i) h1) := by
  have hl := ok.2.1
  have hp := ok.2.2.2.1 i B.2.2.1
  have hi := B.2.2.1
  refine vg_33 hT ?_
  rw [B.2.1, Int.toNat_natCast, (vy_kr B.1 hi).1]
  refine ⟨by omega, vx_CI_mono (vc_32 hT (by omega) h3) ?_⟩
  rintro r2 h2 _ ⟨rfl, f, b⟩ _
  exact ⟨Or.inl rfl, rfl, f, b⟩
/-- a sign of the reference's: one character, or a pair's code -/
theorem vy_sgn {kd ct kr cr vr : Int} (R : vt_rt kd ct kr cr vr) {x : Int} (hx : vt_sg x ∨ (10 ≤ x ∧ x ≤ 13)) : (kr = 4 ∧ cr = (if x ≤ 13 then x + 290 else x)) ↔ kd = x := by
  obtain ⟨a0, a1, a2, a3, a4, a5, a6, a7, a8, a9⟩ := R
  by_cases z0 : kd = 0
  · have := a0 z0; split <;> omega
  by_cases z1 : kd = 1
  · have := a1 z1; split <;> omega
  by_cases z2 : kd = 2
  · have := (a2 z2).1; split <;> omega
  by_cases z3 : kd = 3
  · have := (a3 z3).1; split <;> omega
  by_cases z4 : kd = 4
  · have := (a4 z4).1; split <;> omega
  by_cases z5 : kd ≤ 9
  · have := (a5 (by omega)).1; split <;> omega
  by_cases z6 : kd ≤ 13
  · have := a6 (by omega); split <;> omega
  · have := a7 (by omega); split <;> omega
theorem vc_34 {s : Int} (hT : vx_T 625 672 h) (ok : vy_ok ts) (B : vy_rb h ts cl i V) (hs : vt_sg s ∨ (10 ≤ s ∧ s ≤ 13)) (hx : x = if s ≤ 13 then s + 290 else s) : vx_CI d 34 [.ref 625, .int (vx_i x)] h (fun r h1 => h1 = h ∧ ((r = 1 ∧ vy_k ts i = s) ∨ (r = 0 ∧ vy_k ts i ≠ s))) := by
  have hl := ok.2.1
  have hi := B.2.2.1
  have R := (vy_kr B.1 hi).2
  have S := vy_sgn R hs
  rw [← hx] at S
  have hxr : vx_rI x := by rw [hx]; split <;> omega
  refine vg_34 hT ?_
  rw [B.2.1, Int.toNat_natCast]
  refine ⟨by omega, fun q => ⟨rfl, Or.inr ⟨rfl, fun t => q (S.mpr t).1⟩⟩, fun q => ⟨by omega, hxr, fun q2 => ⟨rfl, Or.inr ⟨rfl, fun t => q2 (S.mpr t).2⟩⟩, fun q2 => ⟨rfl, Or.inl ⟨rfl, S.mp ⟨q, q2⟩⟩⟩⟩⟩
theorem vc_35 {s : Int} (hT : vx_T 625 672 h) (ok : vy_ok ts) (B : vy_rb h ts cl i V) (hs : vt_sg s ∨ (10 ≤ s ∧ s ≤ 13)) (hx : x = if s ≤ 13 then s + 290 else s) : vx_CI (d + 1) 35 [.ref 625, .int (vx_i x)] h (fun r h1 => (r = 1 ∧ vy_k ts i = s ∧ h1 = vx_sJ h 625 10 ((i : Int) + 1) ∧ vy_rb h1 ts cl (i + 1) V) ∨ (r = 0 ∧ vy_k ts i ≠ s ∧ h1 = h)) := by
  have hl := ok.2.1
  have hi := B.2.2.1
  refine vg_35 hT (vx_CI_mono (vc_34 hT ok B hs hx) ?_)
  rintro r1 h1 _ ⟨rfl, hr⟩ _
  rw [B.2.1]
  refine ⟨fun q h3 e3 T3 => ?_, fun q => ?_⟩
  · have hk : vy_k ts i = s := by rcases hr with ⟨-, e⟩ | ⟨e, -⟩; exact e; omega
    exact Or.inl ⟨rfl, hk, e3, vy_rb_at B e3 (by omega) (vy_nx ok hi (by omega)) (by omega)⟩
  · have hk : vy_k ts i ≠ s := by rcases hr with ⟨e, -⟩ | ⟨-, e⟩; omega; exact e
    exact Or.inr ⟨rfl, hk, rfl⟩
theorem vc_36 {s : Int} (hT : vx_T 625 672 h) (ok : vy_ok ts) (B : vy_rb h ts cl i V) (h3 : vx_J h 625 3 ≠ 1) (hs : vt_sg s ∨ (10 ≤ s ∧ s ≤ 13)) (hx : x = if s ≤ 13 then s + 290 else s) : vx_CI (d + 2) 36 [.ref 625, .int (vx_i x)] h (fun r h1 => (r = 1 ∧ vy_k ts i = s ∧ h1 = vx_sJ h 625 10 ((i : Int) + 1) ∧ vy_rb h1 ts cl (i + 1) V) ∨ (r = 0 ∧ vy_k ts i ≠ s ∧ vx_fr vy_Sb h h1 ∧ vy_rbad (vy_p ts i) h1)) := by
  refine vg_36 hT (vx_CI_mono (vc_35 hT ok B hs hx) ?_)
  rintro r1 h1 _ (⟨rfl, q, e1, b⟩ | ⟨rfl, q, rfl⟩) _
  · exact ⟨fun _ => Or.inl ⟨rfl, q, e1, b⟩, fun q => absurd q (by omega)⟩
  · refine ⟨fun q => absurd rfl q, fun _ => vx_CI_mono (vc_33 hT ok B h3) ?_⟩
    rintro r3 h3 _ ⟨rfl, f, b⟩ _
    exact ⟨fun _ => Or.inr ⟨rfl, q, f, b⟩, fun q => absurd rfl q⟩
abbrev vy_Sr (cl a k : Nat) : Prop := (a = 625 ∧ (k = 3 ∨ k = 4 ∨ k = 10 ∨ k = 46 ∨ k = 47)) ∨ (a = 642 ∧ k = cl) ∨ a = 655 ∨ a = 656
/-- how a term's reading ends -/
def vy_tR (ts : vy_T) (cl i : Nat) (R : Int ⊕ (Int × Nat × vy_V)) (h : ve_H) (r : Int) (h1 : ve_H) : Prop := vx_fr (vy_Sr cl) h h1 ∧ match R with
  | .inl p => r = 0 ∧ vy_rbad p h1
  | .inr q => r = 1 ∧ vy_tr q.1 (vx_J h1 625 46) (vx_K h1 625 47) ∧ vx_J h1 625 46 ≠ 2 ∧ vy_rx h h1 ∧ vy_rb h1 ts cl q.2.1 q.2.2 ∧ (vx_J h1 625 46 = 1 ↔ vy_k ts i = 3)
theorem vc_38 (hT : vx_T 625 672 h) (ok : vy_ok ts) (B : vy_rb h ts cl i V) (h3 : vx_J h 625 3 ≠ 1) (hk : vy_k ts i = 3) : vx_CI (d + 2) 38 [.ref 625] h (vy_tR ts cl i (if vy_vx V (vy_v ts i) < V.1 then .inr (144115188075855872 + (vy_vx V (vy_v ts i) : Int), i + 1, V) else if V.1 < 8 then .inr (144115188075855872 + (V.1 : Int), i + 1, vy_va V (vy_v ts i) (vy_p ts i)) else .inl (vy_p ts i)) h) := by
  have hl := ok.2.1
  obtain ⟨b1, b2, b3, b4, b5, b6, b7, b8⟩ := id B
  have hkr := vy_kr b1 b3
  have hv := hkr.2.2.2.2.1 hk
  have hnx := vy_nx ok b3 (by omega)
  have hp := ok.2.2.2.1 i b3
  refine vg_38 hT ?_
  -- the end: kind, index, next token
  have FIN : ∀ (g h6 h7 h8 : ve_H) (v : Nat) (y : Int) (W : vy_V), y = v → v < 8 → vx_fr (vy_Sr cl) h g → vy_rx h g → vy_rb g ts cl i W → h6 = vx_sJ g 625 46 1 → h7 = vx_sK h6 625 47 y → h8 = vx_sJ h7 625 10 ((vx_J h7 625 10) + 1) → vy_tR ts cl i (.inr (144115188075855872 + (v : Int), i + 1, W)) h 1 h8 := by
    intro g h6 h7 h8 v y W hy hv8 fg g3 Bg e6 e7 e8
    have f7 : vx_fr (fun a k => a = 625 ∧ (k = 46 ∨ k = 47)) g h7 := vx_fr_sK (vx_fr_sJ vx_fr_refl e6 (by omega)) e7 (by omega)
    have B7 := vy_rb_fr Bg f7 (fun k => by omega) (by omega) (by omega)
    rw [B7.2.1] at e8
    refine ⟨vx_fr_sJ (vx_fr_trans fg (vx_fr_mono f7 (by intro a k q; omega))) e8 (by omega), rfl, ?_, ?_, ⟨?_, ?_⟩, vy_rb_at (j := i + 1) B7 e8 (by omega) hnx (by omega), ?_⟩
    · rw [e8, vx_J_ne (by omega), vx_K_sJ, e7, vx_J_sK, vx_K_eq (by omega), e6, vx_J_eq (by omega)]
      exact Or.inr (Or.inl ⟨rfl, by show (144115188075855872 + (v : Int)) = _; rw [hy], by omega, by omega⟩)
    · rw [e8, vx_J_ne (by omega), e7, vx_J_sK, e6, vx_J_eq (by omega)]
      omega
    · rw [e8, vx_J_ne (by omega), e7, vx_J_sK, e6, vx_J_ne (by omega), g3.1]
    · rw [e8, vx_J_ne (by omega), e7, vx_J_sK, e6, vx_J_ne (by omega), g3.2]
    · rw [e8, vx_J_ne (by omega), e7, vx_J_sK, e6, vx_J_eq (by omega)]
      exact ⟨fun _ => hk, fun _ => rfl⟩
  have L : ∀ (m v : Nat) (y : Int), V.1 - v = m → v ≤ V.1 → y = v → (∀ j, j < v → V.2.1 j ≠ vy_v ts i) → vx_W (d + 2) 38 2 [some (.ref 625), some (.int (vx_i y))] [] h (vx_RI (vy_tR ts cl i (if vy_vx V (vy_v ts i) < V.1 then .inr (144115188075855872 + (vy_vx V (vy_v ts i) : Int), i + 1, V) else if V.1 < 8 then .inr (144115188075855872 + (V.1 : Int), i + 1, vy_va V (vy_v ts i) (vy_p ts i)) else .inl (vy_p ts i)) h)) := by
    intro m
    induction m with
    | zero =>
      intro v y hm hv2 hy hno
      have hvx : vy_vx V (vy_v ts i) = V.1 := vy_ix_eq (fun j hj => hno j (by omega)) (fun q => absurd q (by omega)) (Nat.le_refl _)
      rw [hvx, if_neg (by omega)]
      refine vg_38_2 hT ?_
      rw [b4, Int.toNat_natCast, b6, b2, Int.toNat_natCast]
      refine ⟨by omega, by omega, fun _ => ⟨by omega, fun q => absurd (by omega) q, fun _ => ⟨fun q8 => ⟨by omega, by omega, fun h12 e12 T12 => ?_⟩, fun q8 => ?_⟩⟩, fun q => absurd q (by omega)⟩
      · rw [show y.toNat = V.1 by omega] at e12 ⊢
        rw [if_pos (by omega)]
        rw [show vx_J h12 625 10 = i by rw [e12, vx_J_sK, b2], Int.toNat_natCast, show vx_J h12 628 i = vy_p ts i by rw [e12, vx_J_sK, hkr.1]]
        refine ⟨by omega, by omega, fun h15 e15 T15 => ?_⟩
        rw [show vx_J h15 625 42 = cl by rw [e15, vx_J_ne (by omega), e12, vx_J_sK, b4], Int.toNat_natCast, show vx_J h15 642 cl = V.1 by rw [e15, vx_J_ne (by omega), e12, vx_J_sK, b6]]
        refine ⟨by omega, by omega, fun h18 e18 T18 h19 e19 T19 h20 e20 T20 h21 e21 T21 => ?_⟩
        have f18 : vx_fr (fun a k => a = 655 ∨ a = 656 ∨ (a = 642 ∧ k = cl)) h h18 := vx_fr_sJ (vx_fr_sJ (vx_fr_sK vx_fr_refl e12 (by omega)) e15 (by omega)) e18 (by omega)
        refine FIN h18 h19 h20 h21 V.1 y (vy_va V (vy_v ts i) (vy_p ts i)) (by omega) (by omega) (vx_fr_mono f18 (by intro a k q; omega)) ⟨vx_fr_J f18 (by omega), vx_fr_J f18 (by omega)⟩ ⟨vy_kr_fr b1 f18 (fun k => by omega), (vx_fr_J f18 (by omega)).trans b2, b3, (vx_fr_J f18 (by omega)).trans b4, b5, ?_, by show V.1 + 1 ≤ 8; omega, fun v2 hv2 => ?_⟩ e19 e20 e21
        · rw [e18, vx_J_eq (by omega)]; rfl
        · have hv2 : v2 < V.1 + 1 := hv2
          have hKr : vx_rL (vx_K h 630 i) := vx_rL_K _ _ _
          rw [e18, vx_K_sJ, vx_J_ne (by omega), e15, vx_K_sJ, vx_J_sJ (by omega), e12, vx_K_sK hKr, vx_J_sK]
          show vt_vs _ ∧ (if v2 = V.1 then vy_v ts i else V.2.1 v2) = _ ∧ _ = (if v2 = V.1 then vy_p ts i else V.2.2 v2)
          by_cases q2 : v2 = V.1
          · rw [if_pos ⟨rfl, q2⟩, if_pos q2, if_pos ⟨rfl, q2⟩, if_pos q2]
            exact ⟨hv.2.1, hv.2.2, rfl⟩
          · rw [if_neg (by omega), if_neg q2, if_neg (by omega), if_neg q2]
            exact b8 v2 (by omega)
      · rw [if_neg (by omega)]
        refine vx_CI_mono (vc_33 hT ok B h3) ?_
        rintro r22 h22 _ ⟨rfl, f, b⟩ _
        exact ⟨Or.inl rfl, vx_fr_mono f (by intro a k q; omega), rfl, b⟩
    | succ m ih =>
      intro v y hm hv2 hy hno
      have bv := b8 v (by omega)
      refine vg_38_2 hT ?_
      rw [b4, Int.toNat_natCast, b6, b2, Int.toNat_natCast, show y.toNat = v by omega]
      refine ⟨by omega, by omega, fun q => absurd q (by omega), fun _ => ⟨by omega, by omega, fun q => ⟨by omega, fun h28 e28 T28 h29 e29 T29 h30 e30 T30 => ?_⟩, fun q => ih (v + 1) (y + 1) (by omega) (by omega) (by omega) (fun j hj => ?_)⟩⟩
      · have hvx : vy_vx V (vy_v ts i) = v := vy_ix_eq hno (fun _ => by rw [bv.2.1, hv.2.2, q]) (by omega)
        rw [hvx, if_pos (by omega)]
        exact FIN h h28 h29 h30 v y V hy (by omega) vx_fr_refl ⟨rfl, rfl⟩ B e28 e29 e30
      · by_cases q2 : j = v
        · rw [q2]
          intro e
          rw [bv.2.1, hv.2.2] at e
          exact q (vt_lf_inj bv.1 hv.2.1 (by omega))
        · exact hno j (by omega)
  exact L V.1 0 0 rfl (Nat.zero_le _) rfl (fun j hj => by omega)
theorem vc_39 (hT : vx_T 625 672 h) (ok : vy_ok ts) (B : vy_rb h ts cl i V) (h3 : vx_J h 625 3 ≠ 1) : vx_CI (d + 3) 39 [.ref 625] h (vy_tR ts cl i (vy_tm ts false i V) h) := by
  have hl := ok.2.1
  obtain ⟨b1, b2, b3, b4, b5, b6, b7, b8⟩ := id B
  have hkr := vy_kr b1 b3
  obtain ⟨a0, a1, a2, a3, a4, a5, a6, a7, a8, a9⟩ := id hkr.2
  -- the end: value, next token
  have FIN : ∀ (g h7 h8 : ve_H) (j : Nat) (t v : Int), vy_k ts i ≠ 3 → vx_fr (vy_Sr cl) h g → vy_rx h g → vx_J g 625 46 = 0 → vy_rb g ts cl j V → vy_k ts j ≠ 0 → vx_rL v → vy_vr t v → h7 = vx_sK g 625 47 v → h8 = vx_sJ h7 625 10 ((vx_J h7 625 10) + 1) → vy_tR ts cl i (.inr (t, j + 1, V)) h 1 h8 := by
    intro g h7 h8 j t v hk3 fg g3 g46 Bg hk0 hvr hvv e7 e8
    have f7 : vx_fr (fun a k => a = 625 ∧ k = 47) g h7 := vx_fr_sK vx_fr_refl e7 (by omega)
    have B7 := vy_rb_fr Bg f7 (fun k => by omega) (by omega) (by omega)
    rw [B7.2.1] at e8
    have hjl := Bg.2.2.1
    refine ⟨vx_fr_sJ (vx_fr_trans fg (vx_fr_mono f7 (by intro a k q; omega))) e8 (by omega), rfl, ?_, ?_, ⟨?_, ?_⟩, vy_rb_at (j := j + 1) B7 e8 (by omega) (vy_nx ok hjl hk0) (by omega), ?_⟩
    · rw [e8, vx_J_ne (by omega), vx_K_sJ, e7, vx_J_sK, vx_K_eq hvr, g46]
      exact Or.inl ⟨rfl, hvv⟩
    · rw [e8, vx_J_ne (by omega), e7, vx_J_sK, g46]
      omega
    · rw [e8, vx_J_ne (by omega), e7, vx_J_sK, g3.1]
    · rw [e8, vx_J_ne (by omega), e7, vx_J_sK, g3.2]
    · rw [e8, vx_J_ne (by omega), e7, vx_J_sK, g46]
      exact ⟨fun q => by omega, fun q => absurd q hk3⟩
  refine vg_39 hT ?_
  rw [b2, Int.toNat_natCast]
  refine ⟨by omega, fun q2 h5 e5 T5 => ?_, fun q2 => ?_⟩
  · have f5 : vx_fr (fun a k => a = 625 ∧ k = 46) h h5 := vx_fr_sJ vx_fr_refl e5 ⟨rfl, rfl⟩
    have B5 := vy_rb_fr B f5 (fun k => by omega) (by omega) (by omega)
    have F5 : vx_fr (vy_Sr cl) h h5 := vx_fr_mono f5 (by intro a k q; omega)
    have c3 : vx_J h5 625 3 = vx_J h 625 3 := vx_fr_J f5 (by omega)
    have c34 : vy_rx h h5 := ⟨c3, vx_fr_J f5 (by omega)⟩
    have c46 : vx_J h5 625 46 = 0 := by rw [e5, vx_J_eq (by omega)]
    have hk3 : vy_k ts i ≠ 3 := fun e => q2 (a3 e).1
    rw [B5.2.1, Int.toNat_natCast, show vx_J h5 627 i = vx_J h 627 i from vx_fr_J f5 (by omega), show vx_K h5 630 i = vx_K h 630 i from vx_fr_K f5 (by omega)]
    refine ⟨by omega, fun q1 => ?_, fun q1 => ⟨by omega, fun h19 e19 T19 h20 e20 T20 => ?_⟩⟩
    · have hk2 : vy_k ts i ≠ 2 := fun e => q1 (a2 e).1
      refine vx_CI_mono (vc_35 (s := 45) T5 ok B5 (by omega) rfl) ?_
      rintro r6 h6 _ (⟨rfl, qm, e6, B6⟩ | ⟨rfl, qm, rfl⟩) T6
      · have F6 : vx_fr (vy_Sr cl) h h6 := vx_fr_sJ F5 e6 (by omega)
        have d3 : vx_J h6 625 3 = vx_J h 625 3 := by rw [e6, vx_J_ne (by omega), c3]
        have d34 : vy_rx h h6 := ⟨d3, by rw [e6, vx_J_ne (by omega), c34.2]⟩
        have hkr6 := vy_kr B6.1 B6.2.2.1
        rw [B6.2.1]
        have et : ((i + 1 : Nat) : Int).toNat = i + 1 := Int.toNat_natCast _
        rw [et]
        have hj := B6.2.2.1
        have R6 := hkr6.2
        refine ⟨by omega, fun q3 => ⟨fun q => absurd q (by omega), fun _ => ⟨by omega, fun h14 e14 T14 h15 e15 T15 => ?_⟩⟩, fun q3 => vx_CI_mono (vc_33 T6 ok B6 (by rw [d3]; exact h3)) ?_⟩
        · have hk4 : vy_k ts (i + 1) = 4 := by
            obtain ⟨u0, u1, u2, u3, u4, u5, u6, u7, u8, u9⟩ := R6
            by_cases z0 : vy_k ts (i + 1) = 0
            · have := u0 z0; omega
            by_cases z1 : vy_k ts (i + 1) = 1
            · have := u1 z1; omega
            by_cases z2 : vy_k ts (i + 1) = 2
            · have := (u2 z2).1; omega
            by_cases z3 : vy_k ts (i + 1) = 3
            · have := (u3 z3).1; omega
            by_cases z4 : vy_k ts (i + 1) = 4
            · exact z4
            by_cases z5 : vy_k ts (i + 1) ≤ 9
            · have := (u5 (by omega)).1; omega
            by_cases z6 : vy_k ts (i + 1) ≤ 13
            · have := (u6 (by omega)).1; omega
            · have := (u7 (by omega)).1; omega
          have hv4 := R6.2.2.2.2.1 hk4
          have e : vy_tm ts false i V = .inr (-(vy_v ts (i + 1)), i + 2, V) := by
            unfold vy_tm
            rw [if_pos qm, if_pos hk4]
          rw [e]
          refine FIN h6 h14 h15 (i + 1) _ _ hk3 F6 d34 (by rw [e6, vx_J_ne (by omega), c46]) B6 (by omega) (by omega) ?_ e14 e15
          rw [hv4.2.1]
          exact Or.inl ⟨rfl, by omega, by omega⟩
        · rintro r16 h16 _ ⟨rfl, f, b⟩ _
          have hk4 : vy_k ts (i + 1) ≠ 4 := fun e => q3 (R6.2.2.2.2.1 e).1
          have e : vy_tm ts false i V = .inl (vy_p ts (i + 1)) := by
            unfold vy_tm
            rw [if_pos qm, if_neg hk4]
          rw [e]
          exact ⟨Or.inl rfl, vx_fr_trans F6 (vx_fr_mono f (by intro a k q; omega)), rfl, b⟩
      · rw [B5.2.1, Int.toNat_natCast, show vx_J h6 627 i = vx_J h 627 i from vx_fr_J f5 (by omega), show vx_K h6 630 i = vx_K h 630 i from vx_fr_K f5 (by omega)]
        refine ⟨by omega, fun q3 => ⟨fun _ => ⟨by omega, fun h11 e11 T11 h12 e12 T12 => ?_⟩, fun q => absurd rfl q⟩, fun q3 => vx_CI_mono (vc_33 T6 ok B5 (by rw [c3]; exact h3)) ?_⟩
        · have hk4 : vy_k ts i = 4 := by
            by_cases z0 : vy_k ts i = 0
            · have := a0 z0; omega
            by_cases z1 : vy_k ts i = 1
            · have := a1 z1; omega
            by_cases z4 : vy_k ts i = 4
            · exact z4
            by_cases z5 : vy_k ts i ≤ 9
            · have := (a5 (by omega)).1; omega
            by_cases z6 : vy_k ts i ≤ 13
            · have := (a6 (by omega)).1; omega
            · have := (a7 (by omega)).1; omega
          have hv4 := a4 hk4
          have e : vy_tm ts false i V = .inr (vy_v ts i, i + 1, V) := by
            unfold vy_tm
            rw [if_neg qm, if_pos (Or.inl hk4)]
          rw [e]
          refine FIN h6 h11 h12 i _ _ hk3 F5 c34 c46 B5 (by omega) (by omega) ?_ e11 e12
          rw [hv4.2.1]
          exact Or.inl ⟨rfl, by omega, by omega⟩
        · rintro r16 h16 _ ⟨rfl, f, b⟩ _
          have hk4 : vy_k ts i ≠ 4 := fun e => q3 (a4 e).1
          have e : vy_tm ts false i V = .inl (vy_p ts i) := by
            unfold vy_tm
            rw [if_neg qm, if_neg (by omega), if_neg hk3, if_neg (fun t => absurd t.1 (by decide))]
          rw [e]
          exact ⟨Or.inl rfl, vx_fr_trans F5 (vx_fr_mono f (by intro a k q; omega)), rfl, b⟩
    · have hk2 : vy_k ts i = 2 := by
        by_cases z0 : vy_k ts i = 0
        · have := a0 z0; omega
        by_cases z1 : vy_k ts i = 1
        · have := a1 z1; omega
        by_cases z2 : vy_k ts i = 2
        · exact z2
        by_cases z4 : vy_k ts i = 4
        · have := (a4 z4).1; omega
        by_cases z5 : vy_k ts i ≤ 9
        · have := (a5 (by omega)).1; omega
        by_cases z6 : vy_k ts i ≤ 13
        · have := (a6 (by omega)).1; omega
        · have := (a7 (by omega)).1; omega
      have hv2 := a2 hk2
      have e : vy_tm ts false i V = .inr (vy_v ts i, i + 1, V) := by
        unfold vy_tm
        rw [if_neg (by omega), if_pos (Or.inr hk2)]
      rw [e]
      have hvs := hv2.2.1
      rw [vx_lor56 (by omega)] at e19
      refine FIN h5 h19 h20 i _ _ hk3 F5 c34 c46 B5 (by omega) (by omega) ?_ e19 e20
      exact Or.inr ⟨vx_K h 630 i, hvs, by omega, hv2.2.2⟩
  · have hk3 : vy_k ts i = 3 := by
      by_cases z0 : vy_k ts i = 0
      · have := a0 z0; omega
      by_cases z1 : vy_k ts i = 1
      · have := a1 z1; omega
      by_cases z2 : vy_k ts i = 2
      · have := (a2 z2).1; omega
      by_cases z3 : vy_k ts i = 3
      · exact z3
      by_cases z4 : vy_k ts i = 4
      · have := (a4 z4).1; omega
      by_cases z5 : vy_k ts i ≤ 9
      · have := (a5 (by omega)).1; omega
      by_cases z6 : vy_k ts i ≤ 13
      · have := (a6 (by omega)).1; omega
      · have := (a7 (by omega)).1; omega
    refine vx_CI_mono (vc_38 (d := d) hT ok B h3 hk3) ?_
    rintro r21 h21 _ p _
    have e : vy_tm ts false i V = (if vy_vx V (vy_v ts i) < V.1 then .inr (144115188075855872 + (vy_vx V (vy_v ts i) : Int), i + 1, V) else if V.1 < 8 then .inr (144115188075855872 + (V.1 : Int), i + 1, vy_va V (vy_v ts i) (vy_p ts i)) else .inl (vy_p ts i)) := by
      unfold vy_tm
      rw [if_neg (by omega), if_neg (by omega), if_pos hk3]
    rw [e]
    refine ⟨?_, p⟩
    revert p
    split
    · intro p; exact Or.inr p.2.1
    split
    · intro p; exact Or.inr p.2.1
    · intro p; exact Or.inl p.2.1
end
