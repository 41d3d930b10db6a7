/-! Each round needs only what is new in the round before it -/
theorem vm_least {P : Nat → Prop} : ∀ n, P n → ∃ m, m ≤ n ∧ P m ∧ ∀ k, k < m → ¬ P k := by
  intro n
  induction n using Nat.strongRecOn with
  | ind n ih =>
    intro hn
    by_cases q : ∃ k, k < n ∧ P k
    · obtain ⟨k, k1, k2⟩ := q
      obtain ⟨m, m1, m2, m3⟩ := ih k k1 k2
      exact ⟨m, by omega, m2, m3⟩
    · exact ⟨n, Nat.le_refl _, hn, fun k k1 k2 => q ⟨k, k1, k2⟩⟩
/-- what a rule may ask, by strata -/
def vm_sr (st : Nat → Nat) (s : Nat) (R : vu_R) : Prop := ∀ j, j < R.2.2.2.2.1 → (R.2.2.2.2.2.1 j = 14 ∨ R.2.2.2.2.2.1 j = 15) → (∃ p : Nat, R.2.2.2.2.2.2.1 j = p ∧ p < 16) ∧ st (R.2.2.2.2.2.2.1 j).toNat ≤ s ∧ (R.2.2.2.2.2.1 j = 15 ∨ R.2.2.1.1 ≠ -1 → st (R.2.2.2.2.2.2.1 j).toNat < s)
/-- the rows of a round, with the rounds in which they came -/
def vm_lv (S : vu_S) (st : Nat → Nat) (s t cnt : Nat) (rr : Nat → Nat → Int) (cm : Nat → Int) : Prop := (∀ f, vm_mt S st s t f ↔ ∃ i, i < cnt ∧ vr_eq 5 (rr i) f) ∧ (∀ i, i < cnt → vm_vr (rr i)) ∧ ∀ i, i < cnt → ∃ s' t' : Nat, st (rr i 0).toNat = s' ∧ cm i = t' ∧ vm_mt S st s' t' (rr i) ∧ (∀ t'', t'' < t' → ¬ vm_mt S st s' t'' (rr i)) ∧ (s' = s → t' ≤ t)
section
variable {S : vu_S} {st : Nat → Nat} {s t c0 : Nat} {r0 : Nat → Nat → Int} {m0 : Nat → Int} {R : vu_R} {σ : Nat → Nat} {u : Nat → Int} {D : vm_S} {tn fr sN : Int}
theorem vm_so_sat (E : ∀ f, D f ↔ ∃ i, i < c0 ∧ vr_eq 5 (r0 i) f) (hs : ∀ j, j < R.2.2.2.2.1 → ∃ e, e < R.2.2.2.2.1 ∧ σ e = j) (q : vm_so R.2.2.2.2 σ (vm_PA c0 r0 m0 st sN tn fr R.2.2.2.2 σ) (vm_NA c0 r0) 0 u) : vm_sat D R.2.2.2.2 u := by
  intro j hj
  obtain ⟨e, e1, e2⟩ := hs j hj
  have t := q e (Nat.zero_le _) e1
  rw [e2] at t
  exact vm_li_D (fun _ f _ ⟨i, i1, i2, _⟩ => (E f).mpr ⟨i, i1, i2⟩) (fun _ f _ h => (E f).mp h) t
/-- where no atom is of the stratum, all rows are in time -/
theorem vm_sat_so (E : ∀ f, D f ↔ ∃ i, i < c0 ∧ vr_eq 5 (r0 i) f) (hσ : ∀ e, e < R.2.2.2.2.1 → σ e < R.2.2.2.2.1) (no : ∀ j, j < R.2.2.2.2.1 → R.2.2.2.2.2.1 j = 14 → (st (R.2.2.2.2.2.2.1 j).toNat : Int) ≠ sN) (q : vm_sat D R.2.2.2.2 u) : vm_so R.2.2.2.2 σ (vm_PA c0 r0 m0 st sN tn fr R.2.2.2.2 σ) (vm_NA c0 r0) 0 u := by
  intro e _ he
  refine vm_li_D (fun k f _ h => ?_) (fun _ f _ h => (E f).mpr h) (q (σ e) (hσ e he))
  obtain ⟨i, i1, i2⟩ := (E f).mp h
  exact ⟨i, i1, i2, fun ow => absurd ow (no (σ e) (hσ e he) k)⟩
theorem vm_sat_low (hW : ∀ r, r < S.2.2.1 → (S.2.2.2.1 r).1 ≠ -1) (Q : vm_sr st s R) (no : ∀ j, j < R.2.2.2.2.1 → R.2.2.2.2.2.1 j = 14 → st (R.2.2.2.2.2.2.1 j).toNat ≠ s) {t' : Nat} (q : vm_sat (vm_mt S st s t) R.2.2.2.2 u) : vm_sat (vm_mt S st s t') R.2.2.2.2 u := by
  refine vm_sat_D (fun j hj => ⟨fun k f hf h => ?_, fun k f hf h => ?_⟩) q
  · exact vm_mt_low hW (by rw [hf]; exact no j hj k) h
  · have := (Q j hj (Or.inr k)).2.2 (Or.inl k)
    exact vm_mt_low hW (by rw [hf]; omega) h
/-- a way that the round before had, or one with a row that is new in it -/
theorem vm_semi (hW : ∀ r, r < S.2.2.1 → (S.2.2.2.1 r).1 ≠ -1) (Q : vm_sr st s R) (V : vm_lv S st s t c0 r0 m0) (hσ : ∀ e, e < R.2.2.2.2.1 → σ e < R.2.2.2.2.1) (hs : ∀ j, j < R.2.2.2.2.1 → ∃ e, e < R.2.2.2.2.1 ∧ σ e = j) (ow : ∃ j, j < R.2.2.2.2.1 ∧ R.2.2.2.2.2.1 j = 14 ∧ st (R.2.2.2.2.2.2.1 j).toNat = s) (q : vm_sat (vm_mt S st s t) R.2.2.2.2 u) :
    (1 ≤ t ∧ vm_sat (vm_mt S st s (t - 1)) R.2.2.2.2 u) ∨ ∃ e, e < R.2.2.2.2.1 ∧ R.2.2.2.2.2.1 (σ e) = 14 ∧ st (R.2.2.2.2.2.2.1 (σ e)).toNat = s ∧ vm_so R.2.2.2.2 σ (vm_PA c0 r0 m0 st s ((t : Int) + 1) e R.2.2.2.2 σ) (vm_NA c0 r0) 0 u := by
  obtain ⟨E, v2, v3⟩ := V
  -- a row of an atom, and when it came
  have wit : ∀ j, j < R.2.2.2.2.1 → R.2.2.2.2.2.1 j = 14 → ∃ i, i < c0 ∧ r0 i 0 = R.2.2.2.2.2.2.1 j ∧ vm_at u (R.2.2.2.2.2.2.2.2 j) (r0 i) := by
    intro j hj k
    obtain ⟨f, f1, f2, f3⟩ := (q j hj).1 k
    obtain ⟨i, i1, i2⟩ := (E f).mp f1
    exact ⟨i, i1, (i2 0 (by omega)).trans f2, vm_at_eq (vr_eq_symm i2) f3⟩
  by_cases al : ∀ j, j < R.2.2.2.2.1 → R.2.2.2.2.2.1 j = 14 → st (R.2.2.2.2.2.2.1 j).toNat = s → ∃ i, i < c0 ∧ r0 i 0 = R.2.2.2.2.2.2.1 j ∧ vm_at u (R.2.2.2.2.2.2.2.2 j) (r0 i) ∧ m0 i < t
  · left
    have t1 : 1 ≤ t := by
      obtain ⟨j, j1, j2, j3⟩ := ow
      obtain ⟨i, i1, _, _, i4⟩ := al j j1 j2 j3
      obtain ⟨_, t', _, t2, _⟩ := v3 i i1
      omega
    refine ⟨t1, fun j hj => ?_⟩
    have lj := q j hj
    refine ⟨fun k => ?_, fun k => ?_, lj.2.2.1, lj.2.2.2⟩
    · by_cases e : st (R.2.2.2.2.2.2.1 j).toNat = s
      · obtain ⟨i, i1, i2, i3, i4⟩ := al j hj k e
        obtain ⟨s', t', a1, a2, a3, _, _⟩ := v3 i i1
        rw [i2, e] at a1
        subst a1
        exact ⟨r0 i, vm_rd_mono (by omega) a3, i2, i3⟩
      · obtain ⟨f, f1, f2, f3⟩ := lj.1 k
        exact ⟨f, vm_mt_low hW (by rw [f2]; exact e) f1, f2, f3⟩
    · rintro ⟨f, f1, f2, f3⟩
      exact lj.2.1 k ⟨f, vm_rd_mono (by omega) f1, f2, f3⟩
  · right
    have ex : ∃ e, e < R.2.2.2.2.1 ∧ R.2.2.2.2.2.1 (σ e) = 14 ∧ st (R.2.2.2.2.2.2.1 (σ e)).toNat = s ∧ ¬ ∃ i, i < c0 ∧ r0 i 0 = R.2.2.2.2.2.2.1 (σ e) ∧ vm_at u (R.2.2.2.2.2.2.2.2 (σ e)) (r0 i) ∧ m0 i < t := by
      apply Classical.byContradiction
      intro no
      refine al (fun j hj k e => Classical.byContradiction (fun no2 => no ?_))
      obtain ⟨e', e1, e2⟩ := hs j hj
      exact ⟨e', e1, by rw [e2]; exact k, by rw [e2]; exact e, by rw [e2]; exact no2⟩
    obtain ⟨e0, he0⟩ := ex
    obtain ⟨e, e1, ⟨e2, e3, e4, e5⟩, e6⟩ := vm_least (P := fun e => e < R.2.2.2.2.1 ∧ R.2.2.2.2.2.1 (σ e) = 14 ∧ st (R.2.2.2.2.2.2.1 (σ e)).toNat = s ∧ ¬ ∃ i, i < c0 ∧ r0 i 0 = R.2.2.2.2.2.2.1 (σ e) ∧ vm_at u (R.2.2.2.2.2.2.2.2 (σ e)) (r0 i) ∧ m0 i < t) e0 he0
    refine ⟨e, e2, e3, e4, fun e' _ he' => ?_⟩
    have lj := q (σ e') (hσ e' he')
    refine ⟨fun k => ?_, fun k => ?_, lj.2.2.1, lj.2.2.2⟩
    · -- when a row came, at most
      have most : ∀ i, i < c0 → r0 i 0 = R.2.2.2.2.2.2.1 (σ e') → st (R.2.2.2.2.2.2.1 (σ e')).toNat = s → m0 i ≤ t := by
        intro i i1 i2 i3
        obtain ⟨s', t', a1, a2, _, _, a5⟩ := v3 i i1
        rw [i2, i3] at a1
        have := a5 a1.symm
        omega
      by_cases q1 : e' < e ∧ st (R.2.2.2.2.2.2.1 (σ e')).toNat = s
      · have old : ∃ i, i < c0 ∧ r0 i 0 = R.2.2.2.2.2.2.1 (σ e') ∧ vm_at u (R.2.2.2.2.2.2.2.2 (σ e')) (r0 i) ∧ m0 i < t := Classical.byContradiction (fun no => e6 e' q1.1 ⟨he', k, q1.2, no⟩)
        obtain ⟨i, i1, i2, i3, i4⟩ := old
        exact ⟨r0 i, ⟨i, i1, fun _ _ => rfl, fun _ => ⟨by omega, by omega, by omega⟩⟩, i2, i3⟩
      · obtain ⟨i, i1, i2, i3⟩ := wit (σ e') (hσ e' he') k
        refine ⟨r0 i, ⟨i, i1, fun _ _ => rfl, fun ow' => ?_⟩, i2, i3⟩
        have ow2 : st (R.2.2.2.2.2.2.1 (σ e')).toNat = s := by omega
        have m1 := most i i1 i2 ow2
        refine ⟨fun ee => ?_, fun ee => absurd ⟨by omega, ow2⟩ q1, fun _ => by omega⟩
        have ee' : e' = e := by omega
        subst ee'
        have : ¬ m0 i < t := fun t => e5 ⟨i, i1, i2, i3, t⟩
        omega
    · rintro ⟨f, f1, f2, f3⟩
      exact lj.2.1 k ⟨f, (E f).mpr f1, f2, f3⟩
/-- a rule's goal is there, or its way has a row that is new -/
theorem vm_new {r : Nat} (hW : ∀ r, r < S.2.2.1 → (S.2.2.2.1 r).1 ≠ -1) (hr : r < S.2.2.1) (eR : S.2.2.2.1 r = R) (hst : st R.1.toNat = s) (hO : R.2.2.1.1 = -1) (t1 : 1 ≤ t) (q : vm_sat (vm_mt S st s (t - 1)) R.2.2.2.2 u) : vm_mt S st s t (vm_gl R u) := by
  obtain ⟨t', rfl⟩ : ∃ t', t = t' + 1 := ⟨t - 1, by omega⟩
  exact Or.inr ⟨r, hr, by rw [eR]; exact hst, by rw [eR]; exact Or.inl ⟨hO, u, q, fun _ _ => rfl⟩⟩
end
section
variable {S : vu_S} {st : Nat → Nat} {s t : Nat} {f : Nat → Int}
/-- no row more: then none ever -/
theorem vm_fix (h : ∀ f, vm_mt S st s (t + 1) f → vm_mt S st s t f) : ∀ t', vm_mt S st s t' f → vm_mt S st s t f := by
  have E : vm_mt S st s (t + 1) = vm_mt S st s t := funext (fun f => propext ⟨h f, fun q => vm_rd_mono (by omega) q⟩)
  have up : ∀ k, vm_mt S st s (t + k) = vm_mt S st s t := by
    intro k
    induction k with
    | zero => rfl
    | succ k ih =>
      by_cases k0 : k = 0
      · rw [k0]; exact E
      · funext f
        apply propext
        constructor
        · rintro (q | ⟨r, r1, r2, r3⟩)
          · rw [← ih]; exact q
          · have q : vm_nr (S.2.2.2.1 r) (t + k = 0) (vm_mt S st s (t + k)) f := r3
            rw [ih] at q
            rw [← E]
            refine Or.inr ⟨r, r1, r2, ?_⟩
            rcases q with q | ⟨_, q, _⟩
            · exact Or.inl q
            · omega
        · intro q
          exact vm_rd_mono (by omega) q
  intro t' q
  by_cases e : t' ≤ t
  · exact vm_rd_mono e q
  · have := up (t' - t)
    rw [show t + (t' - t) = t' by omega] at this
    rw [← this]; exact q
end
