/-! Tokens: what they are, as functions of the text -/
def vt_wb (g c : Int) : Bool := decide ((97 ≤ c ∧ c ≤ 122) ∨ (48 ≤ c ∧ c ≤ 57) ∨ (g ≠ 0 ∧ 65 ≤ c ∧ c ≤ 90))
def vt_db (c : Int) : Bool := decide (48 ≤ c ∧ c ≤ 57)
def vt_run (p : Int → Bool) (c : Nat → Int) : Nat → Nat → Nat
  | 0, i => i
  | m + 1, i => bif p (c i) then vt_run p c m (i + 1) else i
def vt_end (p : Int → Bool) (c : Nat → Int) (n i : Nat) : Nat := vt_run p c (n - i) i
section
variable {p : Int → Bool} {c : Nat → Int} {n i : Nat}
theorem vt_end_ge (h : n ≤ i) : vt_end p c n i = i := by
  unfold vt_end
  rw [show n - i = 0 by omega]
  rfl
theorem vt_end_t (h : i < n) (hp : p (c i) = true) : vt_end p c n i = vt_end p c n (i + 1) := by
  unfold vt_end
  rw [show n - i = (n - (i + 1)) + 1 by omega]
  show (bif p (c i) then vt_run p c (n - (i + 1)) (i + 1) else i) = _
  rw [hp]
  rfl
theorem vt_end_f (hp : p (c i) = false) : vt_end p c n i = i := by
  unfold vt_end
  cases n - i with
  | zero => rfl
  | succ m =>
    show (bif p (c i) then vt_run p c m (i + 1) else i) = i
    rw [hp]
    rfl
theorem vt_run_le : ∀ (m i : Nat), i ≤ vt_run p c m i ∧ vt_run p c m i ≤ i + m
  | 0, i => ⟨Nat.le_refl _, Nat.le_refl _⟩
  | m + 1, i => by
    show i ≤ (bif p (c i) then vt_run p c m (i + 1) else i) ∧ (bif p (c i) then vt_run p c m (i + 1) else i) ≤ i + (m + 1)
    have := vt_run_le m (i + 1)
    cases p (c i) with
    | true => show i ≤ vt_run p c m (i + 1) ∧ vt_run p c m (i + 1) ≤ i + (m + 1); omega
    | false => show i ≤ i ∧ i ≤ i + (m + 1); omega
theorem vt_end_le (h : i ≤ n) : i ≤ vt_end p c n i ∧ vt_end p c n i ≤ n := by
  have := vt_run_le (p := p) (c := c) (n - i) i
  unfold vt_end
  omega
end
/-- six places of letters, the first one highest -/
def vt_pk (c : Nat → Int) (e : Nat) : Nat → Nat → Int → Int
  | 0, _, a => a
  | k + 1, i, a => vt_pk c e k (i + 1) (a * 256 + (bif Nat.blt i e then c i else 0))
def vt_num (c : Nat → Int) : Nat → Nat → Int → Int
  | 0, _, a => a
  | k + 1, i, a => vt_num c k (i + 1) (a * 10 + (c i - 48))
theorem vt_pk_r {c : Nat → Int} {e : Nat} (hc : ∀ i, i < e → 0 ≤ c i ∧ c i < 256) : ∀ (k i : Nat) (a p : Int), 0 ≤ a → a < p → 0 ≤ vt_pk c e k i a ∧ vt_pk c e k i a < p * 256 ^ k
  | 0, i, a, p, h1, h2 => by
    show 0 ≤ a ∧ a < p * 256 ^ 0
    rw [Int.pow_zero]
    omega
  | k + 1, i, a, p, h1, h2 => by
    have hx : 0 ≤ (bif Nat.blt i e then c i else 0) ∧ (bif Nat.blt i e then c i else 0) < 256 := by
      cases hb : Nat.blt i e with
      | true => exact hc i (Nat.le_of_ble_eq_true hb)
      | false => exact ⟨Int.le_refl 0, (by decide : (0 : Int) < 256)⟩
    have := vt_pk_r hc k (i + 1) (a * 256 + (bif Nat.blt i e then c i else 0)) (p * 256) (by omega) (by omega)
    rw [Int.pow_succ, show p * (256 ^ k * 256) = p * 256 * 256 ^ k by rw [Int.mul_comm (256 ^ k) 256, Int.mul_assoc]]
    exact this
theorem vt_num_r {c : Nat → Int} : ∀ (k i : Nat) (a p : Int), (∀ j, i ≤ j → j < i + k → 48 ≤ c j ∧ c j ≤ 57) → 0 ≤ a → a < p → 0 ≤ vt_num c k i a ∧ vt_num c k i a < p * 10 ^ k
  | 0, i, a, p, _, h1, h2 => by
    show 0 ≤ a ∧ a < p * 10 ^ 0
    rw [Int.pow_zero]
    omega
  | k + 1, i, a, p, hc, h1, h2 => by
    have hx := hc i (Nat.le_refl _) (by omega)
    have := vt_num_r k (i + 1) (a * 10 + (c i - 48)) (p * 10) (fun j q1 q2 => hc j (by omega) (by omega)) (by omega) (by omega)
    rw [Int.pow_succ, show p * (10 ^ k * 10) = p * 10 * 10 ^ k by rw [Int.mul_comm (10 ^ k) 10, Int.mul_assoc]]
    exact this
theorem vt_run_all {p : Int → Bool} {c : Nat → Int} : ∀ (m i j : Nat), i ≤ j → j < vt_run p c m i → p (c j) = true
  | 0, i, j, h1, h2 => absurd (show j < i from h2) (by omega)
  | m + 1, i, j, h1, h2 => by
    have h3 : j < (bif p (c i) then vt_run p c m (i + 1) else i) := h2
    cases hp : p (c i) with
    | true =>
      rw [hp] at h3
      by_cases hj : j = i
      · rw [hj]; exact hp
      · exact vt_run_all m (i + 1) j (by omega) h3
    | false =>
      rw [hp] at h3
      exact absurd (show j < i from h3) (by omega)
theorem vt_end_all {p : Int → Bool} {c : Nat → Int} {n i j : Nat} (h1 : i ≤ j) (h2 : j < vt_end p c n i) : p (c j) = true := vt_run_all (n - i) i j h1 h2
def vt_nk (v : Int) : Int := if v = 72173536680083456 then 5 else if v = 72166924400620544 then 6 else if v = 72184542215012352 then 7 else if v = 72176776720380928 then 8 else if v = 72177919483707392 then 9 else 2
def vt_pair (a b : Int) : Int := if a = 58 ∧ b = 45 then 10 else if a = 33 ∧ b = 61 then 11 else if a = 60 ∧ b = 61 then 12 else if a = 62 ∧ b = 61 then 13 else -1
abbrev vt_sg (a : Int) : Prop := a = 33 ∨ a = 37 ∨ (40 ≤ a ∧ a ≤ 47) ∨ (60 ≤ a ∧ a ≤ 63) ∨ a = 95
def vt_see (c : Nat → Int) (n i : Nat) : Int := if i < n then c i else 0
def vt_nm (c : Nat → Int) (e i : Nat) : Int := 72057594037927936 + vt_pk c e 6 i 0
/-- a token: its kind, its content, where the next one may begin -/
def vt_tok (c : Nat → Int) (n i : Nat) : Int × Int × Nat :=
  if 97 ≤ c i ∧ c i ≤ 122 then (if vt_end (vt_wb 0) c n i ≤ i + 6 then (vt_nk (vt_nm c (vt_end (vt_wb 0) c n i) i), vt_nm c (vt_end (vt_wb 0) c n i) i, vt_end (vt_wb 0) c n i) else (1, 0, n))
  else if 65 ≤ c i ∧ c i ≤ 90 then (if vt_end (vt_wb 1) c n i ≤ i + 4 then (3, vt_nm c (vt_end (vt_wb 1) c n i) i, vt_end (vt_wb 1) c n i) else (1, 0, n))
  else if 48 ≤ c i ∧ c i ≤ 57 then (if vt_end vt_db c n i ≤ i + 9 then (4, vt_num c (vt_end vt_db c n i - i) i 0, vt_end vt_db c n i) else (1, 0, n))
  else if vt_pair (c i) (vt_see c n (i + 1)) ≠ -1 then (vt_pair (c i) (vt_see c n (i + 1)), 0, i + 2)
  else if vt_sg (c i) then (c i, 0, i + 1)
  else (1, 0, n)
def vt_toks (c : Nat → Int) (n : Nat) : Nat → Nat → List (Int × Int × Int)
  | 0, _ => [(0, (n : Int), 0)]
  | f + 1, i => if i < n then (if c i = 32 then vt_toks c n f (i + 1) else ((vt_tok c n i).1, (i : Int), (vt_tok c n i).2.1) :: vt_toks c n f (vt_tok c n i).2.2) else [(0, (n : Int), 0)]
theorem vt_pair_r (a b : Int) : vt_pair a b = 10 ∨ vt_pair a b = 11 ∨ vt_pair a b = 12 ∨ vt_pair a b = 13 ∨ vt_pair a b = -1 := by
  unfold vt_pair
  split
  · exact Or.inl rfl
  split
  · exact Or.inr (Or.inl rfl)
  split
  · exact Or.inr (Or.inr (Or.inl rfl))
  split
  · exact Or.inr (Or.inr (Or.inr (Or.inl rfl)))
  · exact Or.inr (Or.inr (Or.inr (Or.inr rfl)))
theorem vt_pair_see {c : Nat → Int} {n i : Nat} (h : vt_pair (c i) (vt_see c n (i + 1)) ≠ -1) : i + 1 < n := by
  by_cases q : i + 1 < n
  · exact q
  · exfalso
    apply h
    unfold vt_see vt_pair
    rw [if_neg q, if_neg (by omega), if_neg (by omega), if_neg (by omega), if_neg (by omega)]
/-- the next place lies behind, and within the text -/
theorem vt_tok_next {c : Nat → Int} {n i : Nat} (h : i < n) : i < (vt_tok c n i).2.2 ∧ (vt_tok c n i).2.2 ≤ n := by
  unfold vt_tok
  split
  · rename_i q
    have e := vt_end_t (p := vt_wb 0) (c := c) h (decide_eq_true (by omega))
    have := vt_end_le (p := vt_wb 0) (c := c) (n := n) (i := i + 1) (by omega)
    split
    · show i < vt_end (vt_wb 0) c n i ∧ vt_end (vt_wb 0) c n i ≤ n
      omega
    · show i < n ∧ n ≤ n
      omega
  split
  · rename_i q
    have e := vt_end_t (p := vt_wb 1) (c := c) h (decide_eq_true (by omega))
    have := vt_end_le (p := vt_wb 1) (c := c) (n := n) (i := i + 1) (by omega)
    split
    · show i < vt_end (vt_wb 1) c n i ∧ vt_end (vt_wb 1) c n i ≤ n
      omega
    · show i < n ∧ n ≤ n
      omega
  split
  · rename_i q
    have e := vt_end_t (p := vt_db) (c := c) h (decide_eq_true (by omega))
    have := vt_end_le (p := vt_db) (c := c) (n := n) (i := i + 1) (by omega)
    split
    · show i < vt_end vt_db c n i ∧ vt_end vt_db c n i ≤ n
      omega
    · show i < n ∧ n ≤ n
      omega
  split
  · rename_i q
    have := vt_pair_see q
    show i < i + 2 ∧ i + 2 ≤ n
    omega
  split
  · show i < i + 1 ∧ i + 1 ≤ n
    omega
  · show i < n ∧ n ≤ n
    omega
