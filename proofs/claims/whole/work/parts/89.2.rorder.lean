/-! Answers in their order: the reference -/
/-- how many rows are ahead -/
noncomputable def vn_ah (w ac : Nat) (ar : Nat → Nat → Int) (i : Nat) : Nat := vr_n (fun j => @decide (vr_lt w (ar j) (ar i)) (Classical.propDecidable _)) ac
section
variable {d n ac i j w : Nat} {h h1 g : ve_H} {ar : Nat → Nat → Int} {x y : Int}
theorem vn_ah_lt (hi : i < ac) (q : vr_lt w (ar i) (ar j)) : vn_ah w ac ar i < vn_ah w ac ar j := by
  refine vr_n_strict ac (fun k _ t => ?_) ⟨i, hi, ?_, ?_⟩
  · have t' := (@decide_eq_true_iff _ (Classical.propDecidable _)).mp t
    exact (@decide_eq_true_iff _ (Classical.propDecidable _)).mpr (vr_lt_trans t' q)
  · exact (@decide_eq_false_iff_not _ (Classical.propDecidable _)).mpr (fun t => vr_lt_irr t (fun _ _ => rfl))
  · exact (@decide_eq_true_iff _ (Classical.propDecidable _)).mpr q
theorem vn_ah_le : vn_ah w ac ar i ≤ ac := vr_n_le _ _
theorem vn_ah_inj (dj : ∀ i j, i < ac → j < ac → vr_eq w (ar i) (ar j) → i = j) (hi : i < ac) (hj : j < ac) (e : vn_ah w ac ar i = vn_ah w ac ar j) : i = j := by
  apply Classical.byContradiction
  intro q
  rcases vr_lt_or (f := ar i) (g := ar j) w (fun t => q (dj i j hi hj t)) with t | t
  · have := vn_ah_lt hi t; omega
  · have := vn_ah_lt hj t; omega
theorem vc_93 (hT : vx_T 625 672 h) (A : ∀ i, i < ac → ∀ v, v < n → vy_vr (ar i v) (vx_K h 654 (8 * i + v))) (j39 : vx_J h 625 39 = n) (n8 : n ≤ 8) (a200 : ac ≤ 200) (hi : i < ac) (hj : j < ac) (hx : x = i) (hy : y = j) : vx_CI (d + 2) 93 [.ref 625, .int (vx_i x), .int (vx_i y)] h (fun r h1 => h1 = h ∧ ((r = 1 ∧ vr_lt n (ar i) (ar j)) ∨ (r = 0 ∧ ¬ vr_lt n (ar i) (ar j)))) := by
  have LOOP : ∀ (m v : Nat) (z : Int) (v4 : Option Value), m = n - v → v ≤ n → z = v → (∀ v', v' < v → ar i v' = ar j v') → vx_W (d + 2) 93 2 [some (.ref 625), some (.int (vx_i x)), some (.int (vx_i y)), some (.int (vx_i z)), v4] [] h (vx_RI (fun r h1 => h1 = h ∧ ((r = 1 ∧ vr_lt n (ar i) (ar j)) ∨ (r = 0 ∧ ¬ vr_lt n (ar i) (ar j))))) := by
    intro m
    induction m with
    | zero =>
      intro v z v4 hm hv hz al
      refine vg_93_2 (d := d + 1) hT ?_
      rw [j39]
      refine ⟨by omega, fun _ => ⟨rfl, Or.inr ⟨rfl, ?_⟩⟩, fun q => absurd q (by omega)⟩
      rintro ⟨k, k1, _, k3⟩
      have := al k (by omega)
      omega
    | succ m ih =>
      intro v z v4 hm hv hz al
      refine vg_93_2 (d := d + 1) hT ?_
      rw [j39, show (8 * x + z).toNat = 8 * i + v by omega, show (8 * y + z).toNat = 8 * j + v by omega]
      refine ⟨by omega, fun q => absurd q (by omega), fun _ => ⟨by omega, by omega, vx_CI_mono (vc_67 (d := d) hT (A i hi v (by omega)) (A j hj v (by omega))) ?_⟩⟩
      rintro r5 h5 _ ⟨rfl, c5⟩ _
      refine ⟨fun q => ih (v + 1) (z + 1) _ (by omega) (by omega) (by omega) (fun v' h' => ?_), fun q => ⟨fun q2 => ⟨rfl, Or.inr ⟨rfl, ?_⟩⟩, fun q2 => ⟨rfl, Or.inl ⟨rfl, v, by omega, al, by omega⟩⟩⟩⟩
      · by_cases e : v' = v
        · rw [e]; omega
        · exact al v' (by omega)
      · rintro ⟨k, k1, k2, k3⟩
        by_cases q3 : k < v
        · have := al k q3; omega
        · by_cases q4 : k = v
          · rw [q4] at k3; omega
          · have := k2 v (by omega); omega
  exact vg_93 (d := d + 1) hT (LOOP n 0 0 none rfl (by omega) rfl (fun v' h' => absurd h' (by omega)))
theorem vc_94_223 {P : Int → ve_H → Prop} {v1 v2 : Int} {pl : Nat} (n8 : n ≤ 8) (a200 : ac ≤ 200) (hi : i < ac) (hv1 : v1 = i) (pl2 : pl ≤ 200) (hv2 : v2 = pl) (j39 : vx_J h 625 39 = n)
    (K : ∀ g v2 v3, vx_T 625 672 g → vx_fr (fun a k => a = 653 ∧ 8 * pl ≤ k ∧ k < 8 * pl + 8) h g → (∀ v, v < n → vx_K g 653 (8 * pl + v) = vx_K h 654 (8 * i + v)) → vx_W (d + 1) 94 178 [some (.ref 625), some (.int (vx_i (v1 + 1))), v2, v3] [] g (vx_RI P)) :
    ∀ (m v : Nat) (g : ve_H) (z : Int), m = n - v → v ≤ n → z = v → vx_T 625 672 g → vx_fr (fun a k => a = 653 ∧ 8 * pl ≤ k ∧ k < 8 * pl + 8) h g → (∀ v', v' < v → vx_K g 653 (8 * pl + v') = vx_K h 654 (8 * i + v')) → vx_W (d + 1) 94 223 [some (.ref 625), some (.int (vx_i v1)), some (.int (vx_i v2)), some (.int (vx_i z))] [] g (vx_RI P) := by
  intro m
  induction m with
  | zero =>
    intro v g z hm hv hz hT F al
    have g39 : vx_J g 625 39 = n := (vx_fr_J F (by omega)).trans j39
    refine vg_94_223 hT ?_
    rw [g39]
    exact ⟨by omega, fun _ => K g _ _ hT F (fun v' h' => al v' (by omega)), fun q => absurd q (by omega)⟩
  | succ m ih =>
    intro v g z hm hv hz hT F al
    have g39 : vx_J g 625 39 = n := (vx_fr_J F (by omega)).trans j39
    refine vg_94_223 hT ?_
    rw [g39]
    refine ⟨by omega, fun q => absurd q (by omega), fun _ => ⟨by omega, by omega, ?_⟩⟩
    rintro h5 e5 hT5
    rw [show (8 * v2 + z).toNat = 8 * pl + v by omega, show (8 * v1 + z).toNat = 8 * i + v by omega, vx_fr_K F (by omega)] at e5
    refine ih (v + 1) h5 (z + 1) (by omega) (by omega) (by omega) hT5 (vx_fr_sK F e5 (by omega)) (fun v' h' => ?_)
    by_cases e : v' = v
    · rw [e, e5, vx_K_eq (vx_rL_K _ _ _)]
    · rw [e5, vx_K_ne (by omega)]; exact al v' (by omega)
theorem vc_94_190 {P : Int → ve_H → Prop} {v1 : Int} (hT : vx_T 625 672 h) (A : ∀ i, i < ac → ∀ v, v < n → vy_vr (ar i v) (vx_K h 654 (8 * i + v))) (j39 : vx_J h 625 39 = n) (j78 : vx_J h 625 78 = ac) (n8 : n ≤ 8) (a200 : ac ≤ 200) (hi : i < ac) (hv1 : v1 = i)
    (K : vx_W (d + 3) 94 223 [some (.ref 625), some (.int (vx_i v1)), some (.int (vx_i (vn_ah n ac ar i : Nat))), some (.int (vx_i 0))] [] h (vx_RI P)) :
    ∀ (m j : Nat) (z v2 : Int), m = ac - j → j ≤ ac → z = j → v2 = (vn_ah n j ar i : Nat) → vx_W (d + 3) 94 190 [some (.ref 625), some (.int (vx_i v1)), some (.int (vx_i v2)), some (.int (vx_i z))] [] h (vx_RI P) := by
  intro m
  induction m with
  | zero =>
    intro j z v2 hm hj hz hv2
    have ej : j = ac := by omega
    subst ej
    refine vg_94_190 (d := d + 2) hT ?_
    rw [j78]
    refine ⟨by omega, fun _ => ?_, fun q => absurd q (by omega)⟩
    rw [hv2]; exact K
  | succ m ih =>
    intro j z v2 hm hj hz hv2
    have es : vn_ah n (j + 1) ar i = vn_ah n j ar i + (bif @decide (vr_lt n (ar j) (ar i)) (Classical.propDecidable _) then 1 else 0) := rfl
    refine vg_94_190 (d := d + 2) hT ?_
    rw [j78]
    refine ⟨by omega, fun q => absurd q (by omega), fun _ => vx_CI_mono (vc_93 (d := d) hT A j39 n8 a200 (i := j) (j := i) (by omega) hi hz hv1) ?_⟩
    rintro r3 h3 _ ⟨rfl, c3⟩ _
    refine ⟨fun q => ih (j + 1) (z + 1) _ (by omega) (by omega) (by omega) ?_, fun q => ih (j + 1) (z + 1) _ (by omega) (by omega) (by omega) ?_⟩
    · have no : ¬ vr_lt n (ar j) (ar i) := by
        rcases c3 with ⟨t, _⟩ | ⟨_, t⟩
        · omega
        · exact t
      rw [es, (@decide_eq_false_iff_not _ (Classical.propDecidable _)).mpr no]
      show v2 + 0 = ((vn_ah n j ar i + 0 : Nat) : Int)
      omega
    · have yes : vr_lt n (ar j) (ar i) := by
        rcases c3 with ⟨_, t⟩ | ⟨t, _⟩
        · exact t
        · exact absurd t q
      rw [es, (@decide_eq_true_iff _ (Classical.propDecidable _)).mpr yes]
      show v2 + 1 = ((vn_ah n j ar i + 1 : Nat) : Int)
      omega
theorem vc_94_178 (A : ∀ i, i < ac → ∀ v, v < n → vy_vr (ar i v) (vx_K h 654 (8 * i + v))) (j39 : vx_J h 625 39 = n) (j78 : vx_J h 625 78 = ac) (n8 : n ≤ 8) (a200 : ac ≤ 200) (dj : ∀ i j, i < ac → j < ac → vr_eq n (ar i) (ar j) → i = j) :
    ∀ (m i : Nat) (g : ve_H) (z : Int) (v2 v3 : Option Value), m = ac - i → i ≤ ac → z = i → vx_T 625 672 g → vx_fr (fun a _ => a = 653) h g → (∀ i', i' < i → ∀ v, v < n → vy_vr (ar i' v) (vx_K g 653 (8 * vn_ah n ac ar i' + v))) → vx_W (d + 3) 94 178 [some (.ref 625), some (.int (vx_i z)), v2, v3] [] g (vx_RI (fun r h1 => r = (ac : Nat) ∧ vx_fr (fun a _ => a = 653) h h1 ∧ ∀ i, i < ac → ∀ v, v < n → vy_vr (ar i v) (vx_K h1 653 (8 * vn_ah n ac ar i + v)))) := by
  intro m
  induction m with
  | zero =>
    intro i g z v2 v3 hm hi hz hT F al
    have g78 : vx_J g 625 78 = ac := (vx_fr_J F (by omega)).trans j78
    refine vg_94_178 (d := d + 2) hT ?_
    rw [g78]
    exact ⟨by omega, fun _ => ⟨rfl, F, fun i' h' => al i' (by omega)⟩, fun q => absurd q (by omega)⟩
  | succ m ih =>
    intro i g z v2 v3 hm hi hz hT F al
    have g78 : vx_J g 625 78 = ac := (vx_fr_J F (by omega)).trans j78
    have g39 : vx_J g 625 39 = n := (vx_fr_J F (by omega)).trans j39
    have hi' : i < ac := by omega
    have Ag : ∀ i, i < ac → ∀ v, v < n → vy_vr (ar i v) (vx_K g 654 (8 * i + v)) := fun i hi v hv => by rw [vx_fr_K F (by omega)]; exact A i hi v hv
    have rl := vn_ah_le (w := n) (ac := ac) (ar := ar) (i := i)
    refine vg_94_178 (d := d + 2) hT ?_
    rw [g78]
    refine ⟨by omega, fun q => absurd q (by omega), fun _ => ?_⟩
    refine vc_94_190 (d := d) hT Ag g39 g78 n8 a200 hi' hz ?_ ac 0 0 0 rfl (by omega) rfl rfl
    refine vc_94_223 (d := d + 2) (pl := vn_ah n ac ar i) n8 a200 hi' hz (by omega) rfl g39 (fun g' v2 v3 hT' F' al' => ?_) n 0 g 0 rfl (by omega) rfl hT vx_fr_refl (fun v' h' => absurd h' (by omega))
    refine ih (i + 1) g' (z + 1) v2 v3 (by omega) (by omega) (by omega) hT' (vx_fr_trans F (vx_fr_mono F' (fun a k q => q.1))) (fun i' h' v hv => ?_)
    by_cases e : i' = i
    · rw [e, al' v hv]; exact Ag i hi' v hv
    · have ne : vn_ah n ac ar i' ≠ vn_ah n ac ar i := fun t => e (vn_ah_inj dj (by omega) hi' t)
      rw [vx_fr_K F' (by omega)]
      exact al i' (by omega) v hv
end
