/-! What hangs on its own absence -/
def vs_ak (L : vy_L) (j : Nat) : Prop := L.2.1 j = 14 ∨ L.2.1 j = 15
def vs_ed (RR : Nat → vu_R) (r j a b : Nat) : Prop := j < (RR r).2.2.2.2.1 ∧ vs_ak (RR r).2.2.2.2 j ∧ (RR r).1 = a ∧ (RR r).2.2.2.2.2.2.1 j = b
def vs_up (RR : Nat → vu_R) (r j a b : Nat) : Prop := ∃ r' j', (r' < r ∨ (r' = r ∧ j' < j)) ∧ vs_ed RR r' j' a b
noncomputable def vs_e (n : Nat) (RR : Nat → vu_R) (a b : Nat) : Bool := @decide (vs_up RR n 0 a b) (Classical.propDecidable _)
theorem vs_e_iff {n : Nat} {RR : Nat → vu_R} {a b : Nat} : vs_e n RR a b = true ↔ vs_up RR n 0 a b := by unfold vs_e; exact @decide_eq_true_iff _ (Classical.propDecidable _)
theorem vs_up_end {RR : Nat → vu_R} {r j a b : Nat} (hj : (RR r).2.2.2.2.1 ≤ j) : vs_up RR r j a b ↔ vs_up RR (r + 1) 0 a b := by
  constructor
  · rintro ⟨r', j', h, e⟩
    exact ⟨r', j', Or.inl (by omega), e⟩
  · rintro ⟨r', j', h, e⟩
    refine ⟨r', j', ?_, e⟩
    by_cases q : r' = r
    · right
      refine ⟨q, ?_⟩
      have := e.1
      rw [q] at this
      omega
    · left; omega
theorem vs_up_add {RR : Nat → vu_R} {r j a b : Nat} : vs_up RR r (j + 1) a b ↔ vs_up RR r j a b ∨ vs_ed RR r j a b := by
  constructor
  · rintro ⟨r', j', h, e⟩
    by_cases q : r' = r ∧ j' = j
    · right; rw [q.1, q.2] at e; exact e
    · left; exact ⟨r', j', by omega, e⟩
  · rintro (⟨r', j', h, e⟩ | e)
    · exact ⟨r', j', by omega, e⟩
    · exact ⟨r, j, by omega, e⟩
/-- the first of what is found -/
def vu_f (g : Nat → Option Int) : Nat → Option Int
  | 0 => none
  | n + 1 => match vu_f g n with
    | some x => some x
    | none => g n
theorem vu_f_none {g : Nat → Option Int} : ∀ {n : Nat}, vu_f g n = none ↔ ∀ i, i < n → g i = none
  | 0 => ⟨fun _ i hi => absurd hi (by omega), fun _ => rfl⟩
  | n + 1 => by
    have ih := vu_f_none (g := g) (n := n)
    unfold vu_f
    constructor
    · intro h
      cases e : vu_f g n with
      | some x => rw [e] at h; cases h
      | none =>
        rw [e] at h
        intro i hi
        by_cases q : i = n
        · rw [q]; exact h
        · exact ih.mp e i (by omega)
    · intro h
      rw [ih.mpr (fun i hi => h i (by omega))]
      exact h n (by omega)
theorem vu_f_at {g : Nat → Option Int} {k : Nat} {x : Int} (h1 : ∀ i, i < k → g i = none) (h2 : g k = some x) : ∀ {n : Nat}, k < n → vu_f g n = some x
  | 0, h => absurd h (by omega)
  | n + 1, h => by
    unfold vu_f
    by_cases q : k = n
    · rw [vu_f_none.mpr (fun i hi => h1 i (by omega))]
      rw [← q]; exact h2
    · rw [vu_f_at h1 h2 (n := n) (by omega)]
def vs_bk (w : Nat → Nat → Bool) (R : vu_R) (j : Nat) : Prop := R.2.2.2.2.2.2.1 j = R.1 ∨ w (R.2.2.2.2.2.2.1 j).toNat R.1.toNat = true
noncomputable def vs_ht (w : Nat → Nat → Bool) (R : vu_R) (j : Nat) : Option Int := @ite _ (R.2.2.1.1 ≠ -1 ∧ vs_ak R.2.2.2.2 j ∧ vs_bk w R j) (Classical.propDecidable _) (some R.2.2.1.2.2) none
noncomputable def vs_hl (w : Nat → Nat → Bool) (R : vu_R) (j : Nat) : Option Int := @ite _ (R.2.2.2.2.2.1 j = 15 ∧ vs_bk w R j) (Classical.propDecidable _) (some (R.2.2.2.2.2.2.2.1 j)) none
noncomputable def vs_hr (w : Nat → Nat → Bool) (R : vu_R) : Option Int := match vu_f (vs_ht w R) R.2.2.2.2.1 with
  | some x => some x
  | none => vu_f (vs_hl w R) R.2.2.2.2.1
noncomputable def vs_hp (w : Nat → Nat → Bool) (n : Nat) (RR : Nat → vu_R) : Option Int := vu_f (fun r => vs_hr w (RR r)) n
section
variable {w : Nat → Nat → Bool} {R : vu_R} {j : Nat}
theorem vs_ht_t (h : R.2.2.1.1 ≠ -1 ∧ vs_ak R.2.2.2.2 j ∧ vs_bk w R j) : vs_ht w R j = some R.2.2.1.2.2 := by unfold vs_ht; exact if_pos h
theorem vs_ht_f (h : ¬ (R.2.2.1.1 ≠ -1 ∧ vs_ak R.2.2.2.2 j ∧ vs_bk w R j)) : vs_ht w R j = none := by unfold vs_ht; exact if_neg h
theorem vs_hl_t (h : R.2.2.2.2.2.1 j = 15 ∧ vs_bk w R j) : vs_hl w R j = some (R.2.2.2.2.2.2.2.1 j) := by unfold vs_hl; exact if_pos h
theorem vs_hl_f (h : ¬ (R.2.2.2.2.2.1 j = 15 ∧ vs_bk w R j)) : vs_hl w R j = none := by unfold vs_hl; exact if_neg h
theorem vs_hr_t {x : Int} {k : Nat} (hk : k < R.2.2.2.2.1) (h1 : ∀ i, i < k → vs_ht w R i = none) (h2 : vs_ht w R k = some x) : vs_hr w R = some x := by
  unfold vs_hr
  rw [vu_f_at h1 h2 hk]
theorem vs_hr_l (h1 : ∀ i, i < R.2.2.2.2.1 → vs_ht w R i = none) : vs_hr w R = vu_f (vs_hl w R) R.2.2.2.2.1 := by
  unfold vs_hr
  rw [vu_f_none.mpr h1]
end
/-- strata: what they must keep, and that they are the least such -/
def vs_ng (n : Nat) (RR : Nat → vu_R) (a b : Nat) : Prop := ∃ r j, r < n ∧ vs_ed RR r j a b ∧ ((RR r).2.2.2.2.2.1 j = 15 ∨ (RR r).2.2.1.1 ≠ -1)
/-- edge j of rule r is kept -/
def vs_kj (s : Nat → Nat) (R : vu_R) (j : Nat) : Prop := vs_ak R.2.2.2.2 j → s (R.2.2.2.2.2.2.1 j).toNat + (if R.2.2.2.2.2.1 j = 15 ∨ R.2.2.1.1 ≠ -1 then 1 else 0) ≤ s R.1.toNat
def vs_kp (s : Nat → Nat) (n : Nat) (RR : Nat → vu_R) : Prop := ∀ r, r < n → ∀ j, j < (RR r).2.2.2.2.1 → vs_kj s (RR r) j
def vs_le (s t : Nat → Nat) : Prop := ∀ p, p < 16 → s p ≤ t p
def vs_lst (s : Nat → Nat) (n : Nat) (RR : Nat → vu_R) : Prop := vs_kp s n RR ∧ ∀ t, vs_kp t n RR → vs_le s t
def vs_sum (s : Nat → Nat) : Nat → Nat
  | 0 => 0
  | k + 1 => vs_sum s k + s k
theorem vs_sum_le {s t : Nat → Nat} : ∀ k, (∀ p, p < k → s p ≤ t p) → vs_sum s k ≤ vs_sum t k
  | 0, _ => Nat.le_refl 0
  | k + 1, h => by
    have := vs_sum_le k (fun p hp => h p (by omega))
    have := h k (by omega)
    show vs_sum s k + s k ≤ vs_sum t k + t k
    omega
theorem vs_sum_lt {s t : Nat → Nat} {x : Nat} : ∀ k, (∀ p, p < k → s p ≤ t p) → x < k → s x < t x → vs_sum s k < vs_sum t k
  | 0, _, h, _ => absurd h (by omega)
  | k + 1, h, hx, hl => by
    show vs_sum s k + s k < vs_sum t k + t k
    have h1 := h k (by omega)
    by_cases q : x = k
    · have := vs_sum_le k (fun p hp => h p (by omega))
      rw [q] at hl
      omega
    · have := vs_sum_lt k (fun p hp => h p (by omega)) (by omega) hl
      omega
theorem vs_sum_16 {s : Nat → Nat} : ∀ k, (∀ p, p < k → s p ≤ 16) → vs_sum s k ≤ 16 * k
  | 0, _ => Nat.le_refl 0
  | k + 1, h => by
    have := vs_sum_16 k (fun p hp => h p (by omega))
    have := h k (by omega)
    show vs_sum s k + s k ≤ 16 * (k + 1)
    omega
/-- where nothing hangs on its own absence, strata exist -/
theorem vs_ex {n : Nat} {RR : Nat → vu_R} {Pd : vy_V} (hP : Pd.1 ≤ 16) (W : ∀ r, r < n → vu_wR Pd (RR r)) (no : vs_hp (vs_w (vs_e n RR) 16) n RR = none) : ∃ s : Nat → Nat, (∀ p, s p ≤ 16) ∧ vs_kp s n RR := by
  have hd : ∀ r j a b, r < n → vs_ed RR r j a b → a < Pd.1 ∧ b < Pd.1 := by
    intro r j a b hr ⟨h1, h2, h3, h4⟩
    obtain ⟨-, -, -, -, -, -, ⟨p, m, w1, w2, -⟩, wL, -⟩ := W r hr
    obtain ⟨p', m', v1, v2, -⟩ := (wL j h1).2.1 h2
    omega
  have he : ∀ a b, vs_e n RR a b = true → a < 16 ∧ b < 16 := by
    intro a b h
    obtain ⟨r, j, h1, h2⟩ := vs_e_iff.mp h
    have := hd r j a b (by omega) h2
    omega
  have dec : ∀ a b, Decidable (vs_ng n RR a b) := fun _ _ => Classical.propDecidable _
  obtain ⟨s, s1, s2, s3⟩ := vs_sol (e := vs_e n RR) (ng := fun a b => @decide _ (dec a b)) he (fun a b h => by
    obtain ⟨r, j, h1, h2, -⟩ := @of_decide_eq_true _ (dec a b) h
    exact vs_e_iff.mpr ⟨r, j, Or.inl h1, h2⟩) (fun a b h => by
    obtain ⟨r, j, h1, h2, h3⟩ := @of_decide_eq_true _ (dec a b) h
    have H := vu_f_none.mp no r h1
    have H : vs_hr (vs_w (vs_e n RR) 16) (RR r) = none := H
    have HT : ∀ i, i < (RR r).2.2.2.2.1 → vs_ht (vs_w (vs_e n RR) 16) (RR r) i = none := by
      refine vu_f_none.mp ?_
      unfold vs_hr at H
      cases e : vu_f (vs_ht (vs_w (vs_e n RR) 16) (RR r)) (RR r).2.2.2.2.1 with
      | none => rfl
      | some x => rw [e] at H; cases H
    rw [vs_hr_l HT] at H
    have HL := vu_f_none.mp H
    have nb : ¬ vs_bk (vs_w (vs_e n RR) 16) (RR r) j := by
      intro t
      rcases h3 with h3 | h3
      · have := HL j h2.1
        rw [vs_hl_t ⟨h3, t⟩] at this
        cases this
      · have := HT j h2.1
        rw [vs_ht_t ⟨h3, h2.2.1, t⟩] at this
        cases this
    unfold vs_bk at nb
    rw [h2.2.2.1, h2.2.2.2, Int.toNat_natCast, Int.toNat_natCast] at nb
    refine ⟨fun t => nb (Or.inl (by rw [t])), ?_⟩
    cases e : vs_w (vs_e n RR) 16 b a with
    | false => rfl
    | true => exact absurd (Or.inr e) nb)
  refine ⟨s, s1, fun r hr j hj hk => ?_⟩
  obtain ⟨-, -, -, -, -, -, ⟨p, m, w1, w2, -⟩, wL, -⟩ := W r hr
  obtain ⟨p', m', v1, v2, -⟩ := (wL j hj).2.1 hk
  rw [w1, v1, Int.toNat_natCast, Int.toNat_natCast]
  have ed : vs_ed RR r j p p' := ⟨hj, hk, w1, v1⟩
  have := s2 p p' (vs_e_iff.mpr ⟨r, j, Or.inl hr, ed⟩)
  split
  · rename_i q
    exact s3 p p' (@decide_eq_true _ (dec p p') ⟨r, j, hr, ed, q⟩)
  · omega
