/-! Places in the order: the class's and the reference's -/
theorem vr_n_one {p q : Nat → Bool} {j0 : Nat} : ∀ n, j0 < n → p j0 = false → q j0 = true → (∀ j, j < n → j ≠ j0 → p j = q j) → vr_n q n = vr_n p n + 1
  | 0, h, _, _, _ => absurd h (by omega)
  | n + 1, h, h1, h2, h3 => by
    show vr_n q n + (bif q n then 1 else 0) = vr_n p n + (bif p n then 1 else 0) + 1
    by_cases e : j0 = n
    · subst e
      rw [h1, h2, vr_n_congr (p := q) (q := p) j0 (fun j hj => (h3 j (by omega) (by omega)).symm)]
      rfl
    · rw [vr_n_one n (by omega) h1 h2 (fun j hj ne => h3 j (by omega) ne), h3 n (by omega) (fun t => e t.symm)]
      omega
theorem vr_n_zero {p : Nat → Bool} : ∀ n, (∀ j, j < n → p j = false) → vr_n p n = 0
  | 0, _ => rfl
  | n + 1, h => by
    show vr_n p n + (bif p n then 1 else 0) = 0
    rw [vr_n_zero n (fun j hj => h j (by omega)), h n (by omega)]
    rfl
theorem vr_n_bij {n : Nat} {t : Nat → Nat} (lt : ∀ j, j < n → t j < n) (inj : ∀ i j, i < n → j < n → t i = t j → i = j) : ∀ c, c ≤ n → vr_n (fun j => decide (t j < c)) n = c
  | 0, _ => vr_n_zero n (fun j _ => decide_eq_false (by omega))
  | c + 1, hc => by
    obtain ⟨j0, j1, j2⟩ := vz_pig n t lt inj c (by omega)
    rw [vr_n_one (p := fun j => decide (t j < c)) n j1 (decide_eq_false (by omega)) (decide_eq_true (by omega)) (fun j hj ne => ?_), vr_n_bij lt inj c (by omega)]
    have ne2 : t j ≠ c := fun e => ne (inj j j0 hj j1 (e.trans j2.symm))
    show decide (t j < c) = decide (t j < c + 1)
    by_cases q : t j < c
    · rw [decide_eq_true q, decide_eq_true (by omega)]
    · rw [decide_eq_false q, decide_eq_false (by omega)]
section
variable {w n ac ac2 : Nat} {ar ar2 : Nat → Nat → Int} {o : Nat → Nat}
theorem vr_so_ie (so : vr_so w ar o ac) : ∀ i j, i < ac → j < ac → vr_eq w (ar (o i)) (ar (o j)) → i = j := fun i j hi hj e => by
  by_cases q : i < j
  · exact absurd e (fun e => vr_lt_irr (so.2 i j q hj) e)
  · by_cases q2 : j < i
    · exact absurd e (fun e => vr_lt_irr (so.2 j i q2 hi) (vr_eq_symm e))
    · omega
theorem vr_so_lt (so : vr_so w ar o ac) {i j : Nat} (hi : i < ac) (hj : j < ac) : vr_lt w (ar (o i)) (ar (o j)) ↔ i < j := by
  constructor
  · intro q
    by_cases q1 : i < j
    · exact q1
    · exfalso
      by_cases q2 : j < i
      · exact vr_lt_irr (vr_lt_trans q (so.2 j i q2 hi)) (fun _ _ => rfl)
      · have e : i = j := by omega
        rw [e] at q
        exact vr_lt_irr q (fun _ _ => rfl)
  · exact fun q => so.2 i j q hj
theorem vr_lt_eq {f g f' g' : Nat → Int} (e1 : vr_eq w f f') (e2 : vr_eq w g g') (q : vr_lt w f g) : vr_lt w f' g' := by
  obtain ⟨k, k1, k2, k3⟩ := q
  exact ⟨k, k1, fun j hj => by rw [← e1 j (by omega), ← e2 j (by omega)]; exact k2 j hj, by rw [← e1 k k1, ← e2 k k1]; exact k3⟩
/-- a row's place in a sorted listing is how many are ahead of it in any listing -/
theorem vn_ah_so (so : vr_so w ar o ac) (hac : ac2 = ac) (dj : ∀ i j, i < ac2 → j < ac2 → vr_eq w (ar2 i) (ar2 j) → i = j) (A : ∀ i, i < ac2 → ∃ j, j < ac ∧ vr_eq w (ar2 i) (ar (o j))) : ∀ j, j < ac → ∃ i, i < ac2 ∧ vr_eq w (ar2 i) (ar (o j)) ∧ vn_ah w ac2 ar2 i = j := by
  subst hac
  have T : ∀ i, ∃ j, i < ac2 → j < ac2 ∧ vr_eq w (ar2 i) (ar (o j)) := fun i => by
    by_cases hi : i < ac2
    · obtain ⟨j, j1, j2⟩ := A i hi
      exact ⟨j, fun _ => ⟨j1, j2⟩⟩
    · exact ⟨0, fun t => absurd t hi⟩
  obtain ⟨t, ht⟩ : ∃ t : Nat → Nat, ∀ i, i < ac2 → t i < ac2 ∧ vr_eq w (ar2 i) (ar (o (t i))) := ⟨fun i => (T i).choose, fun i hi => (T i).choose_spec hi⟩
  have inj : ∀ i j, i < ac2 → j < ac2 → t i = t j → i = j := fun i j hi hj e => by
    have a := (ht i hi).2
    rw [e] at a
    exact dj i j hi hj (vr_eq_trans a (vr_eq_symm (ht j hj).2))
  intro j hj
  obtain ⟨i, i1, i2⟩ := vz_pig ac2 t (fun i hi => (ht i hi).1) inj j hj
  refine ⟨i, i1, by rw [← i2]; exact (ht i i1).2, ?_⟩
  unfold vn_ah
  rw [vr_n_congr (q := fun i' => decide (t i' < j)) ac2 (fun i' h' => ?_)]
  · exact vr_n_bij (fun i hi => (ht i hi).1) inj j (by omega)
  · have e : vr_lt w (ar2 i') (ar2 i) ↔ t i' < j := by
      rw [← i2, ← vr_so_lt so (ht i' h').1 (ht i i1).1]
      exact ⟨fun q => vr_lt_eq (ht i' h').2 (ht i i1).2 q, fun q => vr_lt_eq (vr_eq_symm (ht i' h').2) (vr_eq_symm (ht i i1).2) q⟩
    by_cases q : t i' < j
    · rw [decide_eq_true q]
      exact (@decide_eq_true_iff _ (Classical.propDecidable _)).mpr (e.mpr q)
    · rw [decide_eq_false q]
      exact (@decide_eq_false_iff_not _ (Classical.propDecidable _)).mpr (fun s => q (e.mp s))
theorem vr_lt_n (hn : n ≤ w) {f g : Nat → Int} (z : ∀ v, n ≤ v → v < w → f v = g v) : vr_lt n f g ↔ vr_lt w f g := by
  constructor
  · rintro ⟨k, k1, k2, k3⟩
    exact ⟨k, by omega, k2, k3⟩
  · rintro ⟨k, k1, k2, k3⟩
    refine ⟨k, ?_, k2, k3⟩
    by_cases q : k < n
    · exact q
    · have := z k (by omega) k1
      omega
theorem vn_ah_n (hn : n ≤ w) (z : ∀ i, i < ac → ∀ v, n ≤ v → v < w → ar i v = 0) {i : Nat} (hi : i < ac) : vn_ah n ac ar i = vn_ah w ac ar i := by
  unfold vn_ah
  refine vr_n_congr ac (fun j hj => ?_)
  have e := vr_lt_n (f := ar j) (g := ar i) hn (fun v h1 h2 => by rw [z j hj v h1 h2, z i hi v h1 h2])
  by_cases q : vr_lt n (ar j) (ar i)
  · rw [(@decide_eq_true_iff _ (Classical.propDecidable _)).mpr q, (@decide_eq_true_iff _ (Classical.propDecidable _)).mpr (e.mp q)]
  · rw [(@decide_eq_false_iff_not _ (Classical.propDecidable _)).mpr q, (@decide_eq_false_iff_not _ (Classical.propDecidable _)).mpr (fun t => q (e.mpr t))]
/-- how many answers there are -/
theorem vm_aS_cnt {D : vm_S} {R : vu_R} (a : vm_aS D R ac ar) (da : ∀ i j, i < ac → j < ac → vr_eq 8 (ar i) (ar j) → i = j) (b : vm_aS D R ac2 ar2) : ac ≤ ac2 ∧ ∀ i, i < ac → ∃ j, j < ac2 ∧ vr_eq 8 (ar i) (ar2 j) := by
  have A : ∀ i, i < ac → ∃ j, j < ac2 ∧ vr_eq 8 (ar i) (ar2 j) := fun i hi => by
    obtain ⟨u, u1, _, u3⟩ := a.1 i hi
    obtain ⟨j, j1, j2⟩ := b.2 u u1
    exact ⟨j, j1, vr_eq_trans u3 (vr_eq_symm j2)⟩
  refine ⟨?_, A⟩
  have c : ∀ i, ∃ k, i < ac → k < ac2 ∧ vr_eq 8 (ar i) (ar2 k) := fun i => by
    by_cases hi : i < ac
    · obtain ⟨k, k1, k2⟩ := A i hi
      exact ⟨k, fun _ => ⟨k1, k2⟩⟩
    · exact ⟨0, fun t => absurd t hi⟩
  refine vr_pig ac ac2 (fun i => (c i).choose) (fun i hi => ((c i).choose_spec hi).1) (fun i j hi hj e => da i j hi hj ?_)
  have x1 := ((c i).choose_spec hi).2
  have x2 := ((c j).choose_spec hj).2
  have e' : (c i).choose = (c j).choose := e
  rw [e'] at x1
  exact vr_eq_trans x1 (vr_eq_symm x2)
/-- not too many, where they are listed -/
theorem vm_aS_not {D : vm_S} {R : vu_R} (a : vm_aS D R ac ar) (hc : ac ≤ 200) (b : vm_aB D R) : False := by
  obtain ⟨f, f1, f2⟩ := b
  have c : ∀ i, ∃ k, i < 201 → k < ac ∧ vr_eq 8 (f i) (ar k) := fun i => by
    by_cases hi : i < 201
    · obtain ⟨u, u1, _, u3⟩ := f1 i hi
      obtain ⟨k, k1, k2⟩ := a.2 u u1
      exact ⟨k, fun _ => ⟨k1, vr_eq_trans u3 (vr_eq_symm k2)⟩⟩
    · exact ⟨0, fun t => absurd t hi⟩
  have := vr_pig 201 ac (fun i => (c i).choose) (fun i hi => ((c i).choose_spec hi).1) (fun i j hi hj e => f2 i j hi hj (by
    have x1 := ((c i).choose_spec hi).2
    have x2 := ((c j).choose_spec hj).2
    have e' : (c i).choose = (c j).choose := e
    rw [e'] at x1
    exact vr_eq_trans x1 (vr_eq_symm x2)))
  omega
end
