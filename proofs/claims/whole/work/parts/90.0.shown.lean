/-! Values as the face tells them: the class; letters -/
theorem vx_ush_n (x : Int64) (s : UInt64) (n : Nat) (hs : s.toNat % 64 = n) (hx : 0 ≤ x.toInt) (hn : n = 0 ∨ n = 8 ∨ n = 16 ∨ n = 24 ∨ n = 32 ∨ n = 40) : (x.toUInt64 >>> s).toInt64.toInt = x.toInt / 2 ^ n := by
  have h : (x.toUInt64 >>> s).toNat = x.toBitVec.toNat >>> (s.toNat % 64) := UInt64.toNat_shiftRight ..
  have h1 : (x.toUInt64 >>> s).toInt64.toInt = if 2 * (x.toUInt64 >>> s).toNat < 2 ^ 64 then ((x.toUInt64 >>> s).toNat : Int) else ((x.toUInt64 >>> s).toNat : Int) - (2 ^ 64 : Nat) := BitVec.toInt_eq_toNat_cond _
  have h2 : x.toInt = if 2 * x.toBitVec.toNat < 2 ^ 64 then (x.toBitVec.toNat : Int) else (x.toBitVec.toNat : Int) - (2 ^ 64 : Nat) := BitVec.toInt_eq_toNat_cond _
  have h3 := x.toBitVec.isLt
  rw [h2] at hx
  rw [h1, h2, h, hs, Nat.shiftRight_eq_div_pow]
  generalize x.toBitVec.toNat = m at *
  clear h h1 h2 hs
  rcases hn with rfl | rfl | rfl | rfl | rfl | rfl <;> split <;> split <;> simp only [Int.natCast_ediv, Nat.reducePow, Int.reducePow] at * <;> omega
theorem vx_lushr_n {w j : Int} (hw : vx_rL w) (w0 : 0 ≤ w) (hj : 0 ≤ j ∧ j ≤ 5) : vx_lushr w (8 * j) = w / 2 ^ (8 * j.toNat) := by
  unfold vx_lushr
  have e := vx_l_toInt hw
  have h0 : 0 ≤ (vx_l w).toInt := by rw [e]; exact w0
  have c : j = 0 ∨ j = 1 ∨ j = 2 ∨ j = 3 ∨ j = 4 ∨ j = 5 := by omega
  rcases c with rfl | rfl | rfl | rfl | rfl | rfl
  · rw [vx_ush_n _ _ 0 (by decide) h0 (by decide), e]; rfl
  · rw [vx_ush_n _ _ 8 (by decide) h0 (by decide), e]; rfl
  · rw [vx_ush_n _ _ 16 (by decide) h0 (by decide), e]; rfl
  · rw [vx_ush_n _ _ 24 (by decide) h0 (by decide), e]; rfl
  · rw [vx_ush_n _ _ 32 (by decide) h0 (by decide), e]; rfl
  · rw [vx_ush_n _ _ 40 (by decide) h0 (by decide), e]; rfl
/-- how many letters a name has -/
def vn_kl (u : Int) : Nat := if u < 256 then 1 else if u < 65536 then 2 else if u < 16777216 then 3 else if u < 4294967296 then 4 else if u < 1099511627776 then 5 else 6
section
variable {d i : Nat} {h : ve_H} {x y u t v : Int}
theorem vc_16 (hT : vx_T 1 625 h) (hx : vx_rL x) (hi : i < 6) (hy : y = i) : vx_CI d 16 [.long (vx_l x), .int (vx_i y)] h (fun r h1 => h1 = h ∧ ((vx_by x (5 - i) ≠ 0 ∧ r = vx_by x (5 - i)) ∨ (vx_by x (5 - i) = 0 ∧ r = -1))) := by
  have e := vx_by_c (w := x) (j := 5 - y) hx (by omega)
  rw [show (5 - y).toNat = 5 - i by omega] at e
  refine vg_16 hT ?_
  rw [e]
  exact ⟨by omega, fun q => absurd q (by omega), fun _ => ⟨fun _ => ⟨fun q => ⟨rfl, Or.inl ⟨q, rfl⟩⟩, fun q => ⟨rfl, Or.inr ⟨q, rfl⟩⟩⟩, fun q => absurd q (by omega)⟩⟩
theorem vc_16n (hT : vx_T 1 625 h) (hy : vx_rI y) (hn : y < 0 ∨ 6 ≤ y) : vx_CI d 16 [.long (vx_l x), .int (vx_i y)] h (fun r h1 => h1 = h ∧ r = -1) :=
  vg_16 hT ⟨hy, fun _ => ⟨rfl, rfl⟩, fun q => ⟨fun q2 => by omega, fun _ => ⟨rfl, rfl⟩⟩⟩
theorem vc_15 (hT : vx_T 1 625 h) (hx : vx_rL x) : vx_CI (d + 1) 15 [.long (vx_l x)] h (fun r h1 => h1 = h ∧ ∃ L : Nat, r = L ∧ L ≤ 6 ∧ (∀ i, L ≤ i → i < 6 → vx_by x (5 - i) = 0) ∧ (L = 0 ∨ vx_by x (6 - L) ≠ 0)) := by
  have LOOP : ∀ (m i L : Nat) (z w : Int), m = 6 - i → i ≤ 6 → z = i → w = L → L ≤ i → (∀ i', L ≤ i' → i' < i → vx_by x (5 - i') = 0) → (L = 0 ∨ vx_by x (6 - L) ≠ 0) → vx_W (d + 1) 15 4 [some (.long (vx_l x)), none, some (.int (vx_i w)), some (.int (vx_i z))] [] h (vx_RI (fun r h1 => h1 = h ∧ ∃ L : Nat, r = L ∧ L ≤ 6 ∧ (∀ i, L ≤ i → i < 6 → vx_by x (5 - i) = 0) ∧ (L = 0 ∨ vx_by x (6 - L) ≠ 0))) := by
    intro m
    induction m with
    | zero =>
      intro i L z w hm hi hz hw hL al nz
      exact vg_15_4 hT ⟨by omega, fun _ => ⟨by omega, rfl, L, hw, by omega, fun i' h1 h2 => al i' h1 (by omega), nz⟩, fun q => absurd q (by omega)⟩
    | succ m ih =>
      intro i L z w hm hi hz hw hL al nz
      refine vg_15_4 hT ⟨by omega, fun q => absurd q (by omega), fun _ => vx_CI_mono (vc_16 hT hx (i := i) (by omega) hz) ?_⟩
      rintro r4 h4 _ ⟨rfl, c4⟩ _
      have rr := vx_by_r x (5 - i)
      refine ⟨fun q => ih (i + 1) L (z + 1) w (by omega) (by omega) (by omega) hw (by omega) (fun i' h1 h2 => ?_) nz, fun q => ih (i + 1) (i + 1) (z + 1) (z + 1) (by omega) (by omega) (by omega) (by omega) (Nat.le_refl _) (fun i' h1 h2 => absurd h2 (by omega)) (Or.inr ?_)⟩
      · by_cases e : i' = i
        · rw [e]
          rcases c4 with ⟨t, t2⟩ | ⟨t, _⟩
          · omega
          · exact t
        · exact al i' h1 (by omega)
      · rw [show 6 - (i + 1) = 5 - i by omega]
        rcases c4 with ⟨t, _⟩ | ⟨_, t⟩
        · exact t
        · exact absurd t q
  exact vg_15 hT (LOOP 6 0 0 0 0 rfl (by omega) rfl rfl (Nat.le_refl _) (fun i' h1 h2 => absurd h2 (by omega)) (Or.inl rfl))
theorem vn_kl_u {L k : Nat} (k1 : 1 ≤ k ∧ k ≤ 6) (L6 : L ≤ 6) (al : ∀ i, L ≤ i → i < 6 → vx_by x (5 - i) = 0) (nz : L = 0 ∨ vx_by x (6 - L) ≠ 0) (a : vx_by x (6 - k) ≠ 0) (z : ∀ j, j < 6 - k → vx_by x j = 0) : L = k := by
  by_cases q : L < k
  · exfalso
    have t := al (k - 1) (by omega) (by omega)
    rw [show 5 - (k - 1) = 6 - k by omega] at t
    exact a t
  · by_cases q2 : k < L
    · exfalso
      rcases nz with t | t
      · omega
      · exact t (z (6 - L) (by omega))
    · omega
/-- the bytes of a name in the class -/
theorem vn_kl_b (hu : vt_vs u) (hx : x = 72057594037927936 + vt_lf u) : vx_by x (6 - vn_kl u) ≠ 0 ∧ ∀ j, j < 6 - vn_kl u → vx_by x j = 0 := by
  obtain ⟨u1, u2, u3⟩ := hu
  unfold vt_lf at hx
  unfold vn_kl
  have five : ∀ j : Nat, j < 5 → j = 0 ∨ j = 1 ∨ j = 2 ∨ j = 3 ∨ j = 4 := fun j hj => by omega
  by_cases c1 : u < 256
  · rw [if_pos c1] at hx ⊢
    subst hx
    refine ⟨?_, fun j hj => ?_⟩
    · unfold vx_by; simp only [Nat.reduceSub, Nat.reduceMul, Int.reducePow]; omega
    · rcases five j (by omega) with rfl | rfl | rfl | rfl | rfl <;> unfold vx_by <;> simp only [Nat.reduceMul, Int.reducePow] <;> omega
  rw [if_neg c1] at hx ⊢
  by_cases c2 : u < 65536
  · rw [if_pos c2] at hx ⊢
    subst hx
    refine ⟨?_, fun j hj => ?_⟩
    · unfold vx_by; simp only [Nat.reduceSub, Nat.reduceMul, Int.reducePow]; omega
    · rcases five j (by omega) with rfl | rfl | rfl | rfl | rfl <;> first | omega | (unfold vx_by; simp only [Nat.reduceMul, Int.reducePow]; omega)
  rw [if_neg c2] at hx ⊢
  by_cases c3 : u < 16777216
  · rw [if_pos c3] at hx ⊢
    subst hx
    refine ⟨?_, fun j hj => ?_⟩
    · unfold vx_by; simp only [Nat.reduceSub, Nat.reduceMul, Int.reducePow]; omega
    · rcases five j (by omega) with rfl | rfl | rfl | rfl | rfl <;> first | omega | (unfold vx_by; simp only [Nat.reduceMul, Int.reducePow]; omega)
  rw [if_neg c3] at hx ⊢
  by_cases c4 : u < 4294967296
  · rw [if_pos c4] at hx ⊢
    subst hx
    refine ⟨?_, fun j hj => ?_⟩
    · unfold vx_by; simp only [Nat.reduceSub, Nat.reduceMul, Int.reducePow]; omega
    · rcases five j (by omega) with rfl | rfl | rfl | rfl | rfl <;> first | omega | (unfold vx_by; simp only [Nat.reduceMul, Int.reducePow]; omega)
  rw [if_neg c4] at hx ⊢
  by_cases c5 : u < 1099511627776
  · rw [if_pos c5] at hx ⊢
    subst hx
    refine ⟨?_, fun j hj => ?_⟩
    · unfold vx_by; simp only [Nat.reduceSub, Nat.reduceMul, Int.reducePow]; omega
    · rcases five j (by omega) with rfl | rfl | rfl | rfl | rfl <;> first | omega | (unfold vx_by; simp only [Nat.reduceMul, Int.reducePow]; omega)
  rw [if_neg c5] at hx ⊢
  subst hx
  refine ⟨?_, fun j hj => ?_⟩
  · unfold vx_by; simp only [Nat.reduceSub, Nat.reduceMul, Int.reducePow]; omega
  · exact absurd hj (by omega)
theorem vn_kl_r (hu : vt_vs u) : vt_lf u / 2 ^ (8 * (6 - vn_kl u)) = u ∧ 1 ≤ vn_kl u ∧ vn_kl u ≤ 6 := by
  obtain ⟨u1, u2, u3⟩ := hu
  unfold vt_lf vn_kl
  by_cases c1 : u < 256
  · rw [if_pos c1, if_pos c1]; refine ⟨?_, by omega, by omega⟩; simp only [Nat.reduceSub, Nat.reduceMul, Int.reducePow]; omega
  rw [if_neg c1, if_neg c1]
  by_cases c2 : u < 65536
  · rw [if_pos c2, if_pos c2]; refine ⟨?_, by omega, by omega⟩; simp only [Nat.reduceSub, Nat.reduceMul, Int.reducePow]; omega
  rw [if_neg c2, if_neg c2]
  by_cases c3 : u < 16777216
  · rw [if_pos c3, if_pos c3]; refine ⟨?_, by omega, by omega⟩; simp only [Nat.reduceSub, Nat.reduceMul, Int.reducePow]; omega
  rw [if_neg c3, if_neg c3]
  by_cases c4 : u < 4294967296
  · rw [if_pos c4, if_pos c4]; refine ⟨?_, by omega, by omega⟩; simp only [Nat.reduceSub, Nat.reduceMul, Int.reducePow]; omega
  rw [if_neg c4, if_neg c4]
  by_cases c5 : u < 1099511627776
  · rw [if_pos c5, if_pos c5]; refine ⟨?_, by omega, by omega⟩; simp only [Nat.reduceSub, Nat.reduceMul, Int.reducePow]; omega
  rw [if_neg c5, if_neg c5]
  refine ⟨?_, by omega, by omega⟩
  simp only [Nat.reduceSub, Nat.reduceMul, Int.reducePow]
  omega
/-- a value as the face tells it -/
theorem vc_14 (hT : vx_T 1 625 h) (A : vy_vr t v) : vx_CL (d + 2) 14 [.long (vx_l t)] h (fun r h1 => h1 = h ∧ r = v) := by
  have rl := vy_vr_l A
  rcases A with ⟨e, a1, a2⟩ | ⟨u, hu, ev, et⟩
  · exact vg_14 (d := d + 1) hT ⟨rl.2.1, fun q => absurd q (by omega), fun _ => ⟨rfl, e⟩⟩
  · have lr := vt_lf_r hu
    refine vg_14 (d := d + 1) hT ⟨rl.2.1, fun _ => vx_CI_mono (vc_15 (d := d) hT rl.2.1) ?_, fun q => absurd q (by omega)⟩
    rintro r3 h3 _ ⟨rfl, L, e3, L6, al, nz⟩ _
    have kr := vn_kl_r hu
    have kb := vn_kl_b hu et
    have eL := vn_kl_u kr.2 L6 al nz kb.1 kb.2
    have e := vx_lushr_n (w := t - 72057594037927936) (j := 6 - r3) (by omega) (by omega) (by omega)
    have es : t - 72057594037927936 = vt_lf u := by omega
    rw [e, es, show (6 - r3).toNat = 6 - vn_kl u by omega, kr.1]
    exact ⟨by omega, rfl, ev.symm⟩
end
