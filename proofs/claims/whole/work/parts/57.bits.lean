/-! Bits of small ints -/
theorem vb_of {x : Int} (h : 0 ≤ x ∧ x < 2147483648) : (vx_i x).toBitVec = BitVec.ofNat 32 x.toNat := by
  show BitVec.ofInt 32 x = _
  rw [← Int.toNat_of_nonneg h.1]
  rfl
theorem vb_nat {n : Nat} (h : n < 2147483648) : (BitVec.ofNat 32 n).toInt = n := by
  rw [BitVec.toInt_eq_toNat_cond, BitVec.toNat_ofNat, Nat.mod_eq_of_lt (by omega)]
  split <;> omega
theorem vx_or_nat {x y : Int} (hx : 0 ≤ x ∧ x < 2147483648) (hy : 0 ≤ y ∧ y < 2147483648) : vx_or x y = ((x.toNat ||| y.toNat : Nat) : Int) := by
  have ho : (vx_i x ||| vx_i y).toBitVec = (vx_i x).toBitVec ||| (vx_i y).toBitVec := Int32.toBitVec_or ..
  show (vx_i x ||| vx_i y).toBitVec.toInt = _
  rw [ho, vb_of hx, vb_of hy]
  have e : BitVec.ofNat 32 x.toNat ||| BitVec.ofNat 32 y.toNat = BitVec.ofNat 32 (x.toNat ||| y.toNat) := by
    apply BitVec.eq_of_toNat_eq
    rw [BitVec.toNat_or, BitVec.toNat_ofNat, BitVec.toNat_ofNat, BitVec.toNat_ofNat, Nat.mod_eq_of_lt (show x.toNat < 2 ^ 32 by omega), Nat.mod_eq_of_lt (show y.toNat < 2 ^ 32 by omega), Nat.mod_eq_of_lt (Nat.or_lt_two_pow (n := 32) (by omega) (by omega))]
  rw [e]
  exact vb_nat (Nat.or_lt_two_pow (n := 31) (by omega) (by omega))
theorem vx_and_nat {x y : Int} (hx : 0 ≤ x ∧ x < 2147483648) (hy : 0 ≤ y ∧ y < 2147483648) : vx_and x y = ((x.toNat &&& y.toNat : Nat) : Int) := by
  have ho : (vx_i x &&& vx_i y).toBitVec = (vx_i x).toBitVec &&& (vx_i y).toBitVec := Int32.toBitVec_and ..
  show (vx_i x &&& vx_i y).toBitVec.toInt = _
  rw [ho, vb_of hx, vb_of hy]
  have e : BitVec.ofNat 32 x.toNat &&& BitVec.ofNat 32 y.toNat = BitVec.ofNat 32 (x.toNat &&& y.toNat) := by
    apply BitVec.eq_of_toNat_eq
    rw [BitVec.toNat_and, BitVec.toNat_ofNat, BitVec.toNat_ofNat, BitVec.toNat_ofNat, Nat.mod_eq_of_lt (show x.toNat < 2 ^ 32 by omega), Nat.mod_eq_of_lt (show y.toNat < 2 ^ 32 by omega), Nat.mod_eq_of_lt (Nat.lt_of_le_of_lt Nat.and_le_left (show x.toNat < 2 ^ 32 by omega))]
  rw [e]
  exact vb_nat (Nat.lt_of_le_of_lt Nat.and_le_left (by omega))
theorem vx_shl1 {v : Int} (h : 0 ≤ v ∧ v ≤ 30) : vx_shl 1 v = ((2 ^ v.toNat : Nat) : Int) := by
  have h30 : v = 0 ∨ v = 1 ∨ v = 2 ∨ v = 3 ∨ v = 4 ∨ v = 5 ∨ v = 6 ∨ v = 7 ∨ v = 8 ∨ v = 9 ∨ v = 10 ∨ v = 11 ∨ v = 12 ∨ v = 13 ∨ v = 14 ∨ v = 15 ∨ v = 16 ∨ v = 17 ∨ v = 18 ∨ v = 19 ∨ v = 20 ∨ v = 21 ∨ v = 22 ∨ v = 23 ∨ v = 24 ∨ v = 25 ∨ v = 26 ∨ v = 27 ∨ v = 28 ∨ v = 29 ∨ v = 30 := by omega
  rcases h30 with rfl | rfl | rfl | rfl | rfl | rfl | rfl | rfl | rfl | rfl | rfl | rfl | rfl | rfl | rfl | rfl | rfl | rfl | rfl | rfl | rfl | rfl | rfl | rfl | rfl | rfl | rfl | rfl | rfl | rfl | rfl <;> decide
/-- a bit of a mask -/
def vb (x : Int) (i : Nat) : Bool := x.toNat.testBit i
theorem vb_or {x y : Int} {i : Nat} (hx : 0 ≤ x ∧ x < 2147483648) (hy : 0 ≤ y ∧ y < 2147483648) : vb (vx_or x y) i = (vb x i || vb y i) := by
  unfold vb
  rw [vx_or_nat hx hy, Int.toNat_natCast, Nat.testBit_or]
theorem vb_and {x y : Int} {i : Nat} (hx : 0 ≤ x ∧ x < 2147483648) (hy : 0 ≤ y ∧ y < 2147483648) : vb (vx_and x y) i = (vb x i && vb y i) := by
  unfold vb
  rw [vx_and_nat hx hy, Int.toNat_natCast, Nat.testBit_and]
theorem vb_shl {v : Int} {i : Nat} (h : 0 ≤ v ∧ v ≤ 30) : vb (vx_shl 1 v) i = decide (v.toNat = i) := by
  unfold vb
  rw [vx_shl1 h, Int.toNat_natCast, Nat.testBit_two_pow]
theorem vx_or_r {x y : Int} (hx : 0 ≤ x ∧ x < 2147483648) (hy : 0 ≤ y ∧ y < 2147483648) : 0 ≤ vx_or x y ∧ vx_or x y < 2147483648 := by
  rw [vx_or_nat hx hy]
  have := Nat.or_lt_two_pow (n := 31) (show x.toNat < 2 ^ 31 by omega) (show y.toNat < 2 ^ 31 by omega)
  omega
theorem vx_shl_r {v : Int} (h : 0 ≤ v ∧ v ≤ 30) : 0 ≤ vx_shl 1 v ∧ vx_shl 1 v < 2147483648 := by
  rw [vx_shl1 h]
  have : 2 ^ v.toNat ≤ 2 ^ 30 := Nat.pow_le_pow_right (by omega) (by omega)
  generalize 2 ^ v.toNat = p at this ⊢
  omega
/-- whether a mask has a bit -/
theorem vb_test {x v : Int} (hx : 0 ≤ x ∧ x < 2147483648) (hv : 0 ≤ v ∧ v ≤ 30) : vx_and x (vx_shl 1 v) = 0 ↔ vb x v.toNat = false := by
  rw [vx_and_nat hx (vx_shl_r hv), vx_shl1 hv, Int.toNat_natCast]
  unfold vb
  constructor
  · intro h
    have h0 : x.toNat &&& 2 ^ v.toNat = 0 := by
      generalize x.toNat &&& 2 ^ v.toNat = p at h ⊢
      omega
    have h1 : (x.toNat &&& 2 ^ v.toNat).testBit v.toNat = (x.toNat.testBit v.toNat && (2 ^ v.toNat).testBit v.toNat) := Nat.testBit_and ..
    rw [h0, Nat.zero_testBit, Nat.testBit_two_pow, decide_eq_true rfl, Bool.and_true] at h1
    exact h1.symm
  · intro h
    have h0 : x.toNat &&& 2 ^ v.toNat = 0 := by
      apply Nat.eq_of_testBit_eq
      intro i
      rw [Nat.testBit_and, Nat.testBit_two_pow, Nat.zero_testBit]
      by_cases q : v.toNat = i
      · rw [← q, h]; rfl
      · rw [decide_eq_false q, Bool.and_false]
    rw [h0]
    rfl
