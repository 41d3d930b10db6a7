/-! What hangs on what: a graph's closure, and strata -/
def vs_w (e : Nat → Nat → Bool) : Nat → Nat → Nat → Bool
  | 0, a, b => e a b
  | m + 1, a, b => vs_w e m a b || (vs_w e m a m && vs_w e m m b)
section
variable {e : Nat → Nat → Bool} {m a b k n : Nat}
theorem vs_w_S : vs_w e (m + 1) a b = (vs_w e m a b || (vs_w e m a m && vs_w e m m b)) := rfl
theorem vs_w_row : vs_w e (m + 1) m b = vs_w e m m b := by
  rw [vs_w_S]
  cases vs_w e m m b <;> cases vs_w e m m m <;> rfl
theorem vs_w_col : vs_w e (m + 1) a m = vs_w e m a m := by
  rw [vs_w_S]
  cases vs_w e m a m <;> cases vs_w e m m m <;> rfl
theorem vs_w_mono1 (h : vs_w e m a b = true) : vs_w e (m + 1) a b = true := by
  rw [vs_w_S, h]
  rfl
theorem vs_w_mono (h : e a b = true) : ∀ m, vs_w e m a b = true
  | 0 => h
  | m + 1 => vs_w_mono1 (vs_w_mono h m)
theorem vs_w_or (h : vs_w e (m + 1) a b = true) : vs_w e m a b = true ∨ (vs_w e m a m = true ∧ vs_w e m m b = true) := by
  rw [vs_w_S, Bool.or_eq_true, Bool.and_eq_true] at h
  exact h
theorem vs_w_via (h1 : vs_w e m a m = true) (h2 : vs_w e m m b = true) : vs_w e (m + 1) a b = true := by
  rw [vs_w_S, h1, h2]
  cases vs_w e m a b <;> rfl
theorem vs_w_trans : ∀ {m a k b : Nat}, k < m → vs_w e m a k = true → vs_w e m k b = true → vs_w e m a b = true
  | 0, _, _, _, h, _, _ => absurd h (by omega)
  | m + 1, a, k, b, h, h1, h2 => by
    by_cases q : k = m
    · subst q
      rw [vs_w_col] at h1
      rw [vs_w_row] at h2
      exact vs_w_via h1 h2
    · have hk : k < m := by omega
      rcases vs_w_or h1 with a1 | ⟨a1, a2⟩
      · rcases vs_w_or h2 with b1 | ⟨b1, b2⟩
        · exact vs_w_mono1 (vs_w_trans hk a1 b1)
        · exact vs_w_via (vs_w_trans hk a1 b1) b2
      · rcases vs_w_or h2 with b1 | ⟨b1, b2⟩
        · exact vs_w_via a1 (vs_w_trans hk a2 b1)
        · exact vs_w_via a1 b2
/-- nodes without edges change nothing -/
theorem vs_w_in (he : ∀ a b, e a b = true → a < n ∧ b < n) : ∀ m {a b : Nat}, vs_w e m a b = true → a < n ∧ b < n
  | 0, _, _, h => he _ _ h
  | m + 1, _, _, h => by
    rcases vs_w_or h with q | ⟨q1, q2⟩
    · exact vs_w_in he m q
    · exact ⟨(vs_w_in he m q1).1, (vs_w_in he m q2).2⟩
theorem vs_w_stop (he : ∀ a b, e a b = true → a < n ∧ b < n) (h : n ≤ m) : vs_w e (m + 1) a b = vs_w e m a b := by
  rw [vs_w_S]
  cases h1 : vs_w e m a m with
  | true => have := (vs_w_in he m h1).2; omega
  | false => cases vs_w e m a b <;> rfl
theorem vs_w_end (he : ∀ a b, e a b = true → a < n ∧ b < n) : ∀ k, vs_w e (n + k) a b = vs_w e n a b
  | 0 => rfl
  | k + 1 => by
    rw [show n + (k + 1) = (n + k) + 1 by omega, vs_w_stop he (by omega), vs_w_end he k]
end
theorem vr_n_mono {p q : Nat → Bool} : ∀ n, (∀ i, i < n → p i = true → q i = true) → vr_n p n ≤ vr_n q n
  | 0, _ => Nat.le_refl 0
  | n + 1, h => by
    have := vr_n_mono n (fun i hi => h i (by omega))
    show vr_n p n + (bif p n then 1 else 0) ≤ vr_n q n + (bif q n then 1 else 0)
    cases hp : p n with
    | false => show vr_n p n + 0 ≤ _; omega
    | true =>
      rw [h n (by omega) hp]
      show vr_n p n + 1 ≤ vr_n q n + 1
      omega
theorem vr_n_strict {p q : Nat → Bool} : ∀ n, (∀ i, i < n → p i = true → q i = true) → (∃ i, i < n ∧ p i = false ∧ q i = true) → vr_n p n + 1 ≤ vr_n q n
  | 0, _, h => by obtain ⟨i, hi, -⟩ := h; omega
  | n + 1, h, ⟨i, hi, h1, h2⟩ => by
    show vr_n p n + (bif p n then 1 else 0) + 1 ≤ vr_n q n + (bif q n then 1 else 0)
    by_cases q1 : i = n
    · subst q1
      rw [h1, h2]
      have := vr_n_mono (p := p) (q := q) i (fun j hj => h j (by omega))
      show vr_n p i + 0 + 1 ≤ vr_n q i + 1
      omega
    · have := vr_n_strict (p := p) (q := q) n (fun j hj => h j (by omega)) ⟨i, by omega, h1, h2⟩
      cases hp : p n with
      | false => show vr_n p n + 0 + 1 ≤ _; omega
      | true =>
        rw [h n (by omega) hp]
        show vr_n p n + 1 + 1 ≤ vr_n q n + 1
        omega
/-- where none hangs on its own absence there are strata, sixteen at most -/
theorem vs_sol {e ng : Nat → Nat → Bool} (he : ∀ a b, e a b = true → a < 16 ∧ b < 16) (hn : ∀ a b, ng a b = true → e a b = true) (no : ∀ a b, ng a b = true → a ≠ b ∧ vs_w e 16 b a = false) : ∃ s : Nat → Nat, (∀ p, s p ≤ 16) ∧ (∀ a b, e a b = true → s b ≤ s a) ∧ (∀ a b, ng a b = true → s b + 1 ≤ s a) := by
  have dec : ∀ p q : Nat, Decidable (∃ x, ng x q = true ∧ (p = x ∨ vs_w e 16 p x = true)) := fun _ _ => Classical.propDecidable _
  refine ⟨fun p => vr_n (fun q => @decide _ (dec p q)) 16, fun p => vr_n_le _ 16, fun a b hab => ?_, fun a b hab => ?_⟩
  · refine vr_n_mono 16 (fun q _ hq => ?_)
    have hq := @of_decide_eq_true _ (dec b q) hq
    refine @decide_eq_true _ (dec a q) ?_
    obtain ⟨x, h1, h2⟩ := hq
    refine ⟨x, h1, Or.inr ?_⟩
    have hw := vs_w_mono hab 16
    rcases h2 with rfl | h2
    · exact hw
    · exact vs_w_trans (he a b hab).2 hw h2
  · have hab2 := hn a b hab
    refine vr_n_strict 16 (fun q _ hq => ?_) ⟨b, (he a b hab2).2, ?_, ?_⟩
    · have hq := @of_decide_eq_true _ (dec b q) hq
      refine @decide_eq_true _ (dec a q) ?_
      obtain ⟨x, h1, h2⟩ := hq
      refine ⟨x, h1, Or.inr ?_⟩
      have hw := vs_w_mono hab2 16
      rcases h2 with rfl | h2
      · exact hw
      · exact vs_w_trans (he a b hab2).2 hw h2
    · refine @decide_eq_false _ (dec b b) ?_
      rintro ⟨x, h1, h2⟩
      obtain ⟨h3, h4⟩ := no x b h1
      rcases h2 with h2 | h2
      · exact h3 h2.symm
      · rw [h4] at h2; cases h2
    · exact @decide_eq_true _ (dec a b) ⟨a, hab, Or.inl rfl⟩
