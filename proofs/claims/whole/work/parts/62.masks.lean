/-! Masks of variables; which variables a literal has, whether it is ready: the class -/
theorem vb_sub {r x : Int} (hr : 0 ≤ r ∧ r < 2147483648) (hx : 0 ≤ x ∧ x < 2147483648) : vx_and r (vx_xor x (-1)) = 0 ↔ ∀ i, vb r i = true → vb x i = true := by
  have e1 : vx_and r (vx_xor x (-1)) = ((vx_i r).toBitVec &&& ((vx_i x).toBitVec ^^^ (vx_i (-1)).toBitVec)).toInt := by
    unfold vx_and vx_xor
    rw [vx_i_of]
    show (vx_i r &&& (vx_i x ^^^ vx_i (-1))).toBitVec.toInt = _
    rw [Int32.toBitVec_and, Int32.toBitVec_xor]
  have e2 : (vx_i (-1)).toBitVec = BitVec.allOnes 32 := by decide
  have e3 : ∀ y : Int, 0 ≤ y ∧ y < 2147483648 → ∀ i, i < 32 → (vx_i y).toBitVec.getLsbD i = vb y i := by
    intro y hy i hi
    rw [vb_of hy, BitVec.getLsbD_ofNat]
    unfold vb
    rw [decide_eq_true hi, Bool.true_and]
  have e4 : ∀ y : Int, 0 ≤ y ∧ y < 2147483648 → ∀ i, 32 ≤ i → vb y i = false := by
    intro y hy i hi
    unfold vb
    apply Nat.testBit_lt_two_pow
    have : 2 ^ 32 ≤ 2 ^ i := Nat.pow_le_pow_right (by omega) hi
    generalize 2 ^ i = p at this ⊢
    omega
  rw [e1, e2]
  have z : (0#32).toInt = 0 := by decide
  constructor
  · intro h i hi
    have h0 := BitVec.toInt_inj.mp (h.trans z.symm)
    by_cases q : i < 32
    · have h1 := congrArg (fun v => BitVec.getLsbD v i) h0
      simp only [BitVec.getLsbD_and, BitVec.getLsbD_xor, BitVec.getLsbD_allOnes, BitVec.getLsbD_zero, e3 r hr i q, e3 x hx i q, hi, decide_eq_true q] at h1
      cases hb : vb x i with
      | true => rfl
      | false => rw [hb] at h1; exact absurd h1 (by decide)
    · rw [e4 r hr i (by omega)] at hi
      exact absurd hi (by decide)
  · intro h
    have h0 : (vx_i r).toBitVec &&& ((vx_i x).toBitVec ^^^ BitVec.allOnes 32) = 0#32 := by
      apply BitVec.eq_of_getLsbD_eq
      intro i q
      simp only [BitVec.getLsbD_and, BitVec.getLsbD_xor, BitVec.getLsbD_allOnes, BitVec.getLsbD_zero, e3 r hr i q, e3 x hx i q, decide_eq_true q]
      cases hb : vb r i with
      | false => rfl
      | true => rw [h i hb]; rfl
    rw [h0, z]
theorem vx_or_256 {x y : Int} (hx : 0 ≤ x ∧ x < 256) (hy : 0 ≤ y ∧ y < 256) : 0 ≤ vx_or x y ∧ vx_or x y < 256 := by
  rw [vx_or_nat (by omega) (by omega)]
  have := Nat.or_lt_two_pow (n := 8) (show x.toNat < 2 ^ 8 by omega) (show y.toNat < 2 ^ 8 by omega)
  omega
theorem vx_shl_256 {v : Int} (h : 0 ≤ v ∧ v < 8) : 0 ≤ vx_shl 1 v ∧ vx_shl 1 v < 256 := by
  rw [vx_shl1 (by omega)]
  have : 2 ^ v.toNat ≤ 2 ^ 7 := Nat.pow_le_pow_right (by omega) (by omega)
  generalize 2 ^ v.toNat = p at this ⊢
  omega
theorem vb_0 {i : Nat} : vb 0 i = false := Nat.zero_testBit i
/-- a term is a variable -/
def vz_v (t : Int) (i : Nat) : Prop := i < 8 ∧ t = 144115188075855872 + (i : Int)
def vz_rd (kd : Int) (A : Nat → Int) (S : Nat → Prop) : Prop := (kd = 61 → (∀ i, vz_v (A 0) i → S i) ∨ (∀ i, vz_v (A 1) i → S i)) ∧ (kd = 5 → (∀ i, vz_v (A 1) i → S i) ∧ (∀ i, vz_v (A 2) i → S i)) ∧ (kd ≠ 61 → kd ≠ 5 → ∀ k, k < 4 → ∀ i, vz_v (A k) i → S i)
section
variable {d o : Nat} {h : ve_H} {L : vy_L} {x y : Int}
theorem vc_17 (hT : vx_T 1 625 h) (hx : vx_rL x) : vx_CI d 17 [.long (vx_l x)] h (fun r h1 => h1 = h ∧ ((r = 1 ∧ 144115188075855872 ≤ x ∧ x < 144115188075855880) ∨ (r = 0 ∧ ¬ (144115188075855872 ≤ x ∧ x < 144115188075855880)))) :=
  vg_17 hT ⟨hx, fun q => ⟨rfl, Or.inr ⟨rfl, by omega⟩⟩, fun q => ⟨fun q2 => ⟨rfl, Or.inr ⟨rfl, by omega⟩⟩, fun q2 => ⟨rfl, Or.inl ⟨rfl, by omega⟩⟩⟩⟩
theorem vc_190_5 {a fr m : Nat} (oa : vx_o 1 625 21 a) (hz : fr + m ≤ vx_za a) (hz2 : vx_za a < 1000) (hT : vx_T 1 625 h) (hx : x = fr) (hy : y = m) :
    ∀ (n v : Nat) (v3 v4 : Int), n = fr + m - v → fr ≤ v → v ≤ fr + m → v4 = v → (0 ≤ v3 ∧ v3 < 256) → (∀ i, vb v3 i = true ↔ ∃ k, fr ≤ k ∧ k < v ∧ vz_v (vx_K h a k) i) → vx_W (d + 1) 190 5 [some (.ref a), some (.int (vx_i x)), some (.int (vx_i y)), some (.int (vx_i v3)), some (.int (vx_i v4))] [] h (vx_RI (fun r h1 => h1 = h ∧ (0 ≤ r ∧ r < 256) ∧ ∀ i, vb r i = true ↔ ∃ k, fr ≤ k ∧ k < fr + m ∧ vz_v (vx_K h a k) i)) := by
  intro n
  induction n with
  | zero =>
    intro v v3 v4 hn h1 h2 h4 h3 hb
    have e : v = fr + m := by omega
    subst e
    exact vg_190_5 oa hT ⟨by omega, by omega, fun _ => ⟨by omega, rfl, h3, hb⟩, fun q => absurd q (by omega)⟩
  | succ n ih =>
    intro v v3 v4 hn h1 h2 h4 h3 hb
    refine vg_190_5 oa hT ⟨by omega, by omega, fun q => absurd q (by omega), fun _ => ⟨by omega, fun q => absurd q (by omega), fun _ => ?_⟩⟩
    rw [show v4.toNat = v by omega]
    refine ⟨by omega, vx_CI_mono (vc_17 hT (vx_rL_K _ _ _)) ?_⟩
    rintro r9 h9 _ ⟨rfl, c⟩ _
    rcases c with ⟨rfl, c1, c2⟩ | ⟨rfl, c⟩
    · refine ⟨fun t => absurd t (by decide), fun _ => ⟨by omega, ?_⟩⟩
      have hs : 0 ≤ vx_K h9 a v - 144115188075855872 ∧ vx_K h9 a v - 144115188075855872 < 8 := by omega
      refine ih (v + 1) _ (v4 + 1) (by omega) (by omega) (by omega) (by omega) (vx_or_256 h3 (vx_shl_256 hs)) (fun i => ?_)
      rw [vb_or (by omega) (by have := vx_shl_256 hs; omega), vb_shl (by omega), Bool.or_eq_true, hb i, decide_eq_true_iff]
      constructor
      · rintro (⟨k, a1, a2, a3⟩ | q)
        · exact ⟨k, a1, by omega, a3⟩
        · exact ⟨v, h1, by omega, by omega, by omega⟩
      · rintro ⟨k, a1, a2, a3, a4⟩
        by_cases qk : k = v
        · right; rw [qk] at a4; omega
        · exact Or.inl ⟨k, a1, by omega, a3, a4⟩
    · refine ⟨fun _ => ih (v + 1) v3 (v4 + 1) (by omega) (by omega) (by omega) (by omega) h3 (fun i => ?_), fun t => absurd rfl t⟩
      rw [hb i]
      constructor
      · rintro ⟨k, a1, a2, a3⟩
        exact ⟨k, a1, by omega, a3⟩
      · rintro ⟨k, a1, a2, a3, a4⟩
        by_cases qk : k = v
        · rw [qk] at a4; omega
        · exact ⟨k, a1, by omega, a3, a4⟩
theorem vc_190 {a fr m : Nat} (oa : vx_o 1 625 21 a) (hz : fr + m ≤ vx_za a) (hz2 : vx_za a < 1000) (hT : vx_T 1 625 h) (hx : x = fr) (hy : y = m) : vx_CI (d + 1) 190 [.ref a, .int (vx_i x), .int (vx_i y)] h (fun r h1 => h1 = h ∧ (0 ≤ r ∧ r < 256) ∧ ∀ i, vb r i = true ↔ ∃ k, fr ≤ k ∧ k < fr + m ∧ vz_v (vx_K h a k) i) :=
  vg_190 oa hT (vc_190_5 oa hz hz2 hT hx hy _ fr 0 x rfl (Nat.le_refl _) (by omega) hx (by decide) (fun i => ⟨fun t => absurd (vb_0.symm.trans t) (by decide), fun ⟨k, a1, a2, _⟩ => absurd a1 (by omega)⟩))
/-- some terms of a literal -/
theorem vc_190l {l k0 m : Nat} (ho : vx_o 1 625 7 o) (hT : vx_T 1 625 h) (C : vy_cl h o L) (hl : l < L.1) (hk : k0 + m ≤ 4) (hx : x = ((l * 4 + k0 : Nat) : Int)) (hy : y = m) : vx_CI (d + 1) 190 [.ref (vx_r o 11), .int (vx_i x), .int (vx_i y)] h (fun r h1 => h1 = h ∧ (0 ≤ r ∧ r < 256) ∧ ∀ i, vb r i = true ↔ ∃ k, k0 ≤ k ∧ k < k0 + m ∧ vz_v (L.2.2.2.2 l k) i) := by
  have o11 := vx_f7_11 ho
  have hl6 := C.2.1
  refine vx_CI_mono (vc_190 (fr := l * 4 + k0) (m := m) o11.2.1 (by rw [o11.2.2]; omega) (by rw [o11.2.2]; omega) hT hx hy) ?_
  rintro r h1 _ ⟨rfl, hr, hb⟩
  refine ⟨rfl, hr, fun i => (hb i).trans ⟨?_, ?_⟩⟩
  · rintro ⟨k, a1, a2, a3⟩
    refine ⟨k - l * 4, by omega, by omega, ?_⟩
    rw [← (C.2.2 l hl).2.2.2 (k - l * 4) (by omega), show l * 4 + (k - l * 4) = k by omega]
    exact a3
  · rintro ⟨k, a1, a2, a3⟩
    refine ⟨l * 4 + k, by omega, by omega, ?_⟩
    rw [(C.2.2 l hl).2.2.2 k (by omega)]
    exact a3
def vz_lv (L : vy_L) (l i : Nat) : Prop := ∃ k, k < 4 ∧ vz_v (L.2.2.2.2 l k) i
theorem vc_189 {l : Nat} (ho : vx_o 1 625 7 o) (hT : vx_T 1 625 h) (C : vy_cl h o L) (hl : l < L.1) (hx : x = l) : vx_CI (d + 2) 189 [.ref o, .int (vx_i x)] h (fun r h1 => h1 = h ∧ (0 ≤ r ∧ r < 256) ∧ ∀ i, vb r i = true ↔ vz_lv L l i) := by
  refine vg_189 ho hT (vx_CI_mono (vc_190l (d := d) (k0 := 0) (m := 4) ho hT C hl (by omega) (by omega) rfl) ?_)
  rintro r h1 _ ⟨rfl, hr, hb⟩ _
  refine ⟨rfl, hr, fun i => (hb i).trans ⟨?_, ?_⟩⟩
  · rintro ⟨k, _, a2, a3⟩; exact ⟨k, by omega, a3⟩
  · rintro ⟨k, a2, a3⟩; exact ⟨k, by omega, by omega, a3⟩
theorem vc_188_2 {l : Nat} (ho : vx_o 1 625 7 o) (hT : vx_T 1 625 h) (C : vy_cl h o L) (hl : l < L.1) (hx : x = l) (hy : 0 ≤ y ∧ y < 256) : ∀ (n v : Nat) (z : Int), n = 4 - v → v ≤ 4 → z = v → (∀ k, k < v → L.2.2.2.2 l k ≠ 288230376151711744) → vx_W (d + 2 + 1) 188 2 [some (.ref o), some (.int (vx_i x)), some (.int (vx_i y)), some (.int (vx_i z))] [] h (vx_RI (fun r h1 => h1 = h ∧ ((r = 1 ∧ (∀ k, k < 4 → L.2.2.2.2 l k ≠ 288230376151711744) ∧ ∀ i, vz_lv L l i → vb y i = true) ∨ (r = 0 ∧ ¬ ((∀ k, k < 4 → L.2.2.2.2 l k ≠ 288230376151711744) ∧ ∀ i, vz_lv L l i → vb y i = true))))) := by
  intro n
  induction n with
  | zero =>
    intro v z hn h4 hz hA
    have e4 : v = 4 := by omega
    subst e4
    refine vg_188_2 ho hT ⟨by omega, fun _ => vx_CI_mono (vc_189 (d := d) ho hT C hl hx) ?_, fun q => absurd q (by omega)⟩
    rintro r3 h3 _ ⟨rfl, hr, hb⟩ _
    have hs := vb_sub (r := r3) (x := y) (by omega) (by omega)
    refine ⟨fun q => ⟨rfl, Or.inr ⟨rfl, fun t => q (hs.mpr (fun i hi => t.2 i ((hb i).mp hi)))⟩⟩, fun q => ⟨rfl, Or.inl ⟨rfl, hA, fun i hi => hs.mp q i ((hb i).mpr hi)⟩⟩⟩
  | succ n ih =>
    intro v z hn h4 hz hA
    have hl6 := C.2.1
    refine vg_188_2 ho hT ⟨by omega, fun q => absurd q (by omega), fun _ => ?_⟩
    rw [show (x * 4 + z).toNat = l * 4 + v by omega, (C.2.2 l hl).2.2.2 v (by omega)]
    refine ⟨by omega, fun q => ih (v + 1) (z + 1) (by omega) (by omega) (by omega) (fun k hk => ?_), fun q => ⟨rfl, Or.inr ⟨rfl, fun t => t.1 v (by omega) q⟩⟩⟩
    by_cases qk : k = v
    · rw [qk]; exact q
    · exact hA k (by omega)
theorem vc_188 {l : Nat} (ho : vx_o 1 625 7 o) (hT : vx_T 1 625 h) (C : vy_cl h o L) (hl : l < L.1) (hx : x = l) (hy : 0 ≤ y ∧ y < 256) : vx_CI (d + 3) 188 [.ref o, .int (vx_i x), .int (vx_i y)] h (fun r h1 => h1 = h ∧ ((r = 1 ∧ (∀ k, k < 4 → L.2.2.2.2 l k ≠ 288230376151711744) ∧ ∀ i, vz_lv L l i → vb y i = true) ∨ (r = 0 ∧ ¬ ((∀ k, k < 4 → L.2.2.2.2 l k ≠ 288230376151711744) ∧ ∀ i, vz_lv L l i → vb y i = true)))) :=
  vg_188 ho hT (vc_188_2 ho hT C hl hx hy 4 0 0 rfl (by omega) rfl (fun k hk => absurd hk (by omega)))
theorem vc_187 {l : Nat} (ho : vx_o 1 625 7 o) (hT : vx_T 1 625 h) (C : vy_cl h o L) (hl : l < L.1) (hx : x = l) (hy : 0 ≤ y ∧ y < 256) : vx_CI (d + 2) 187 [.ref o, .int (vx_i x), .int (vx_i y)] h (fun r h1 => h1 = h ∧ ((r = 1 ∧ vz_rd (L.2.1 l) (L.2.2.2.2 l) (fun i => vb y i = true)) ∨ (r = 0 ∧ ¬ vz_rd (L.2.1 l) (L.2.2.2.2 l) (fun i => vb y i = true)))) := by
  have hl6 := C.2.1
  -- what a mask of one or more terms says
  have ONE : ∀ (r : Int) (k0 m : Nat), (0 ≤ r ∧ r < 256) → (∀ i, vb r i = true ↔ ∃ k, k0 ≤ k ∧ k < k0 + m ∧ vz_v (L.2.2.2.2 l k) i) → (vx_and r (vx_xor y (-1)) = 0 ↔ ∀ k, k0 ≤ k → k < k0 + m → ∀ i, vz_v (L.2.2.2.2 l k) i → vb y i = true) := by
    intro r k0 m hr hb
    rw [vb_sub (by omega) (by omega)]
    constructor
    · intro t k h1 h2 i hi; exact t i ((hb i).mpr ⟨k, h1, h2, hi⟩)
    · intro t i hi
      obtain ⟨k, h1, h2, h3⟩ := (hb i).mp hi
      exact t k h1 h2 i h3
  refine vg_187 ho hT ?_
  rw [show x.toNat = l by omega, (C.2.2 l hl).1]
  refine ⟨by omega, fun q61 => ⟨by omega, fun q5 => vx_CI_mono (vc_190l (d := d) (k0 := 0) (m := 4) ho hT C hl (by omega) (by omega) rfl) ?_, fun q5 => vx_CI_mono (vc_190l (d := d) (k0 := 1) (m := 2) ho hT C hl (by omega) (by omega) rfl) ?_⟩, fun q61 => vx_CI_mono (vc_190l (d := d) (k0 := 0) (m := 1) ho hT C hl (by omega) (by omega) rfl) ?_⟩
  · rintro r h1 _ ⟨rfl, hr, hb⟩ _
    have hs := ONE r 0 4 hr hb
    refine ⟨fun q => ⟨rfl, Or.inr ⟨rfl, fun t => q (hs.mpr (fun k _ hk i hi => t.2.2 q61 q5 k (by omega) i hi))⟩⟩, fun q => ⟨rfl, Or.inl ⟨rfl, fun t => absurd t q61, fun t => absurd t q5, fun _ _ k hk i hi => hs.mp q k (by omega) (by omega) i hi⟩⟩⟩
  · rintro r h1 _ ⟨rfl, hr, hb⟩ _
    have hs := ONE r 1 2 hr hb
    refine ⟨fun q => ⟨rfl, Or.inr ⟨rfl, fun t => q (hs.mpr (fun k h1 hk i hi => ?_))⟩⟩, fun q => ⟨rfl, Or.inl ⟨rfl, fun t => absurd t q61, fun _ => ⟨fun i hi => hs.mp q 1 (by omega) (by omega) i hi, fun i hi => hs.mp q 2 (by omega) (by omega) i hi⟩, fun _ t => absurd q5 t⟩⟩⟩
    have u := t.2.1 q5
    rcases (by omega : k = 1 ∨ k = 2) with rfl | rfl
    · exact u.1 i hi
    · exact u.2 i hi
  · rintro r h1 _ ⟨rfl, hr, hb⟩ _
    have hs := ONE r 0 1 hr hb
    refine ⟨fun q => ⟨rfl, Or.inl ⟨rfl, fun _ => Or.inl (fun i hi => hs.mp q 0 (by omega) (by omega) i hi), fun t => absurd t (by omega), fun t => absurd q61 t⟩⟩, fun q => vx_CI_mono (vc_190l (d := d) (k0 := 1) (m := 1) ho hT C hl (by omega) (by omega) rfl) ?_⟩
    rintro r2 h2 _ ⟨rfl, hr2, hb2⟩ _
    have hs2 := ONE r2 1 1 hr2 hb2
    refine ⟨fun q2 => ⟨rfl, Or.inr ⟨rfl, fun t => ?_⟩⟩, fun q2 => ⟨rfl, Or.inl ⟨rfl, fun _ => Or.inr (fun i hi => hs2.mp q2 1 (by omega) (by omega) i hi), fun t => absurd t (by omega), fun t => absurd q61 t⟩⟩⟩
    rcases t.1 q61 with u | u
    · exact q (hs.mpr (fun k h1 hk i hi => u i (by rw [show k = 0 by omega] at hi; exact hi)))
    · exact q2 (hs2.mpr (fun k h1 hk i hi => u i (by rw [show k = 1 by omega] at hi; exact hi)))
theorem vc_186_10 (ho : vx_o 1 625 7 o) (hT : vx_T 1 625 h) (C : vy_cl h o L) (hx : 0 ≤ x ∧ x < 256) (hy : 0 ≤ y ∧ y < 256) {R : Int → ve_H → Prop}
    (X1 : (∀ j, j < L.1 → vb x j = false → L.2.1 j ≠ 14 ∧ ¬ vz_rd (L.2.1 j) (L.2.2.2.2 j) (fun i => vb y i = true)) → R (-1) h)
    (X2 : ∀ l : Nat, l < L.1 → vb x l = false → (L.2.1 l ≠ 14 → vz_rd (L.2.1 l) (L.2.2.2.2 l) (fun i => vb y i = true)) → R l h) :
    ∀ (n : Nat) (v3 v4 : Int), n ≤ L.1 → v4 = (n : Int) - 1 → (∀ j, n ≤ j → j < L.1 → vb x j = false → (L.2.1 j ≠ 14 → ¬ vz_rd (L.2.1 j) (L.2.2.2.2 j) (fun i => vb y i = true)) ∧ (L.2.1 j = 14 → v3 ≠ -1)) → (v3 = -1 ∨ ∃ l : Nat, v3 = l ∧ l < L.1 ∧ vb x l = false ∧ L.2.1 l = 14) → vx_W (d + 2 + 1) 186 10 [some (.ref o), some (.int (vx_i x)), some (.int (vx_i y)), some (.int (vx_i v3)), some (.int (vx_i v4))] [] h (vx_RI R) := by
  have hl6 := C.2.1
  intro n
  induction n with
  | zero =>
    intro v3 v4 hn h4 hno h3
    refine vg_186_10 ho hT ⟨by omega, fun _ => ⟨?_, ?_⟩, fun q => absurd q (by omega)⟩
    · rcases h3 with q | ⟨l, q, hl, -⟩ <;> omega
    · rcases h3 with q | ⟨l, q, hl, hb, hk⟩
      · rw [q]
        exact X1 (fun j hj hb => ⟨fun t => (hno j (by omega) hj hb).2 t q, (hno j (by omega) hj hb).1 (fun t => (hno j (by omega) hj hb).2 t q)⟩)
      · rw [q]
        exact X2 l hl hb (fun t => absurd hk t)
  | succ n ih =>
    intro v3 v4 hn h4 hno h3
    refine vg_186_10 ho hT ⟨by omega, fun q => absurd q (by omega), fun _ => ?_⟩
    rw [show v4.toNat = n by omega, (C.2.2 n (by omega)).1]
    have ht := vb_test (x := x) (v := v4) (by omega) (by omega)
    rw [show v4.toNat = n by omega] at ht
    refine ⟨fun q => ⟨by omega, fun q14 => vx_CI_mono (vc_187 (d := d) ho hT C (show n < L.1 by omega) (by omega) hy) ?_, fun q14 => ih v4 (v4 + -1) (by omega) (by omega) (fun j h1 h2 hb => ?_) (Or.inr ⟨n, by omega, by omega, ht.mp q, q14⟩)⟩, fun q => ih v3 (v4 + -1) (by omega) (by omega) (fun j h1 h2 hb => ?_) h3⟩
    · rintro r7 h7 _ ⟨rfl, c⟩ _
      rcases c with ⟨rfl, c⟩ | ⟨rfl, c⟩
      · refine ⟨fun t => absurd t (by decide), fun _ => ?_⟩
        rw [show v4 = (n : Int) by omega]
        exact X2 n (by omega) (ht.mp q) (fun _ => c)
      · refine ⟨fun _ => ih v3 (v4 + -1) (by omega) (by omega) (fun j h1 h2 hb => ?_) h3, fun t => absurd rfl t⟩
        by_cases qj : j = n
        · rw [qj]; exact ⟨fun _ => c, fun t => absurd t q14⟩
        · exact hno j (by omega) h2 hb
    · by_cases qj : j = n
      · rw [qj]; exact ⟨fun t => absurd q14 t, fun _ => by omega⟩
      · have := hno j (by omega) h2 hb
        exact ⟨this.1, fun _ => by omega⟩
    · by_cases qj : j = n
      · rw [qj] at hb; exact absurd (ht.mpr hb) q
      · exact hno j (by omega) h2 hb
theorem vc_186 (ho : vx_o 1 625 7 o) (hT : vx_T 1 625 h) (C : vy_cl h o L) (hx : 0 ≤ x ∧ x < 256) (hy : 0 ≤ y ∧ y < 256) : vx_CI (d + 3) 186 [.ref o, .int (vx_i x), .int (vx_i y)] h (fun r h1 => h1 = h ∧ ((r = -1 ∧ ∀ j, j < L.1 → vb x j = false → L.2.1 j ≠ 14 ∧ ¬ vz_rd (L.2.1 j) (L.2.2.2.2 j) (fun i => vb y i = true)) ∨ (∃ l : Nat, r = l ∧ l < L.1 ∧ vb x l = false ∧ (L.2.1 l ≠ 14 → vz_rd (L.2.1 l) (L.2.2.2.2 l) (fun i => vb y i = true))))) := by
  refine vg_186 ho hT ?_
  rw [C.1]
  exact vc_186_10 (d := d) ho hT C hx hy (fun q => ⟨rfl, Or.inl ⟨rfl, q⟩⟩) (fun l h1 h2 h3 => ⟨rfl, Or.inr ⟨l, rfl, h1, h2, h3⟩⟩) L.1 (-1) _ (Nat.le_refl _) rfl (fun j h1 h2 => absurd h1 (by omega)) (Or.inl rfl)
end
