/-! What a call leaves alone, in short -/
/-- the programs' references, the widths, the models -/
def vi_ex (Sx : Nat → Nat → Prop) : Prop := (¬ Sx 1 3 ∧ ¬ Sx 1 4 ∧ ¬ Sx 1 9) ∧ (¬ Sx 23 0 ∧ ¬ Sx 34 0 ∧ ¬ Sx 617 0 ∧ ¬ Sx 621 0 ∧ ¬ Sx 45 0 ∧ ¬ Sx 334 0) ∧ (∀ a k, Sx a k → a < 23 ∨ 30 < a) ∧ (∀ a k, 650 ≤ a → a ≤ 652 → ¬ Sx a k) ∧ ¬ Sx 625 36
/-- the answers -/
def vi_eA (Sx : Nat → Nat → Prop) : Prop := (¬ Sx 1 5 ∧ ¬ Sx 1 6 ∧ ¬ Sx 1 7 ∧ ¬ Sx 1 10) ∧ (∀ a k, 617 ≤ a → a < 625 → ¬ Sx a k) ∧ (¬ Sx 625 37 ∧ ¬ Sx 625 38 ∧ ¬ Sx 625 39) ∧ ∀ k, ¬ Sx 653 k
section
variable {Sx S1 S2 : Nat → Nat → Prop} {h g : ve_H} {pi sd aa ab m ac : Nat} {ar : Nat → Nat → Int} {o : Nat → Nat}
theorem vi_nCT (n13 : ¬ Sx 1 3) (np : ∀ a k, pi ≤ a → a < pi + 289 → ¬ Sx a k) : vi_nC Sx pi ∧ vi_nT Sx pi := by
  have q : ∀ b k, b < 289 → ¬ Sx (pi + b) k := fun b k hb => np _ _ (by omega) (by omega)
  exact ⟨⟨n13, ⟨q 0 6 (by decide), q 0 7 (by decide), q 0 8 (by decide)⟩, fun k => ⟨q 1 k (by decide), q 2 k (by decide), q 3 k (by decide)⟩, fun a k h1 h2 => np a k (by omega) h2⟩, ⟨q 6 0 (by decide), q 6 4 (by decide)⟩, fun a k h1 h2 => np a k (by omega) (by omega)⟩
theorem vi_A_e (A : vi_A h aa m ac ar o) (B : vi_B h aa ab) (f : vx_fq Sx h g) (x : vi_eA Sx) : vi_A g aa m ac ar o ∧ vi_B g aa ab := by
  have a2 := A.2.1
  exact ⟨vi_A_q A f ⟨⟨x.1.1, x.1.2.2.1⟩, fun a k h1 h2 => x.2.1 a k (by omega) (by omega)⟩ (vx_fq_J f x.2.2.1.2.1) (vx_fq_J f x.2.2.1.2.2) (fun k => vx_fq_K f (x.2.2.2 k)), (vx_fq_R f x.1.2.1).trans B.1, B.2⟩
theorem vi_nR_or (a : ∀ a k, S1 a k → a < 625 ∨ 664 < a) (b : vi_nR S2 sd) : vi_nR (fun a k => S1 a k ∨ S2 a k) sd := by
  have n : ∀ a k, 625 ≤ a → a ≤ 664 → ¬ S2 a k → ¬ (S1 a k ∨ S2 a k) := fun a' k h1 h2 h3 q => by
    rcases q with q | q
    · have := a _ _ q; omega
    · exact h3 q
  obtain ⟨b1, b2, b3, b4, b5, b6⟩ := b
  refine ⟨n _ _ (by decide) (by decide) b1, fun k h1 h2 => n _ _ (by decide) (by decide) (b2 k h1 h2), fun k h1 h2 => ?_, fun k h1 h2 => ?_, fun k h1 h2 => ?_, fun k h1 h2 => ?_⟩
  · obtain ⟨x1, x2, x3, x4, x5, x6⟩ := b3 k h1 h2
    exact ⟨n _ _ (by decide) (by decide) x1, n _ _ (by decide) (by decide) x2, n _ _ (by decide) (by decide) x3, n _ _ (by decide) (by decide) x4, n _ _ (by decide) (by decide) x5, n _ _ (by decide) (by decide) x6⟩
  · obtain ⟨x1, x2⟩ := b4 k h1 h2
    exact ⟨n _ _ (by decide) (by decide) x1, n _ _ (by decide) (by decide) x2⟩
  · obtain ⟨x1, x2, x3, x4⟩ := b5 k h1 h2
    exact ⟨n _ _ (by decide) (by decide) x1, n _ _ (by decide) (by decide) x2, n _ _ (by decide) (by decide) x3, n _ _ (by decide) (by decide) x4⟩
  · obtain ⟨x1, x2⟩ := b6 k h1 h2
    exact ⟨n _ _ (by decide) (by decide) x1, n _ _ (by decide) (by decide) x2⟩
theorem vi_nF_or (a : ∀ a k, S1 a k → a < 625 ∨ 664 < a) (b : vi_nF S2 sd) : vi_nF (fun a k => S1 a k ∨ S2 a k) sd := by
  have n : ∀ a k, 625 ≤ a → a ≤ 664 → ¬ S2 a k → ¬ (S1 a k ∨ S2 a k) := fun a' k h1 h2 h3 q => by
    rcases q with q | q
    · have := a _ _ q; omega
    · exact h3 q
  obtain ⟨b1, b2, b3, b4⟩ := b
  exact ⟨⟨n _ _ (by decide) (by decide) b1.1, n _ _ (by decide) (by decide) b1.2⟩, fun k h1 h2 => ⟨n _ _ (by decide) (by decide) (b2 k h1 h2).1, n _ _ (by decide) (by decide) (b2 k h1 h2).2⟩, fun k h1 h2 => n _ _ (by decide) (by decide) (b3 k h1 h2), fun k h1 h2 => n _ _ (by decide) (by decide) (b4 k h1 h2)⟩
end
