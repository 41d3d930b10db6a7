/-! What follows: valuations, literals, what a step of a search does -/
def vm_v (u : Nat → Int) (t : Int) : Int := if 144115188075855872 ≤ t ∧ t < 144115188075855880 then u (t - 144115188075855872).toNat else t
def vm_m1 (u : Nat → Int) (t x : Int) : Prop := t = 288230376151711744 ∨ vm_v u t = x
def vm_at (u A f : Nat → Int) : Prop := ∀ k, k < 4 → vm_m1 u (A k) (f (k + 1))
def vm_rk (op a b : Int) : Int := if op = 43 then vx_w (a + b) else if op = 45 then vx_w (a - b) else if op = 42 then vx_w (a * b) else if op = 47 then vx_div a b else vx_rem a b
def vm_is (op a b r : Int) : Prop := a < 72057594037927936 ∧ b < 72057594037927936 ∧ ¬ (b = 0 ∧ (op = 47 ∨ op = 37)) ∧ r = vm_rk op a b
def vm_cp (kd x y : Int) : Prop := (kd = 61 → x = y) ∧ (kd = 11 → x ≠ y) ∧ (kd = 60 → x < y) ∧ (kd = 12 → x ≤ y) ∧ (kd = 62 → y < x) ∧ (kd = 13 → y ≤ x)
/-- a set of rows -/
abbrev vm_S : Type := (Nat → Int) → Prop
def vm_ex (D : vm_S) (e : Int) (A u : Nat → Int) : Prop := ∃ f, D f ∧ f 0 = e ∧ vm_at u A f
/-- a literal holds; atoms in P, those with ! against N -/
def vm_li (P N : vm_S) (kd e : Int) (A u : Nat → Int) : Prop :=
  (kd = 14 → vm_ex P e A u) ∧ (kd = 15 → ¬ vm_ex N e A u) ∧ (kd = 5 → vm_is e (vm_v u (A 1)) (vm_v u (A 2)) (vm_v u (A 0))) ∧ (vy_rel kd → vm_cp kd (vm_v u (A 0)) (vm_v u (A 1)))
def vm_sat (D : vm_S) (L : vy_L) (u : Nat → Int) : Prop := ∀ j, j < L.1 → vm_li D D (L.2.1 j) (L.2.2.1 j) (L.2.2.2.2 j) u
/-- two valuations agree on a mask -/
def vm_ag (b : Int) (u w : Nat → Int) : Prop := ∀ i, vb b i = true → u i = w i
/-- what a mask has are values -/
def vm_ok (b : Int) (u : Nat → Int) : Prop := ∀ i, vb b i = true → vz_va (u i)
/-- what a step does: under what holds already (b) it finds the one way in which C holds, or there is none -/
def vm_sp (b b1 : Int) (C : (Nat → Int) → Prop) (v : Nat → Int) (r : Int) (v1 : Nat → Int) : Prop := vm_ag b v v1 ∧ ((r = 1 ∧ C v1 ∧ vm_ok b1 v1 ∧ ∀ u, vm_ag b v u → C u → vm_ag b1 v1 u) ∨ (r = 0 ∧ ∀ u, vm_ag b v u → ¬ C u))
/-- the class's variables -/
def vm_hv (h : ve_H) : Nat → Int := fun v => vx_K h 31 v
section
variable {u w v : Nat → Int} {b b1 : Int} {t x : Int} {i : Nat}
theorem vm_v_v (h : vz_v t i) : vm_v u t = u i := by
  unfold vm_v
  have h1 := h.1
  have h2 := h.2
  rw [if_pos (by omega), show (t - 144115188075855872).toNat = i by omega]
theorem vm_v_c (h : ∀ i, ¬ vz_v t i) : vm_v u t = t := by
  unfold vm_v
  rw [if_neg]
  intro q
  exact h (t - 144115188075855872).toNat ⟨by omega, by omega⟩
theorem vz_v_or (t : Int) : (∃ i, vz_v t i) ∨ ∀ i, ¬ vz_v t i := by
  by_cases h : ∃ i, vz_v t i
  · exact Or.inl h
  · exact Or.inr (fun i hi => h ⟨i, hi⟩)
theorem vz_v_in {t : Int} : (∃ i, vz_v t i) ↔ (144115188075855872 ≤ t ∧ t < 144115188075855880) := by
  constructor
  · rintro ⟨i, h1, h2⟩; omega
  · intro h; exact ⟨(t - 144115188075855872).toNat, by omega, by omega⟩
theorem vz_v_1 {j : Nat} (h : vz_v t i) (h2 : vz_v t j) : i = j := by
  have := h.2
  have := h2.2
  omega
/-- a term whose variables are in the mask has one value -/
theorem vm_v_ag (h : vm_ag b u w) (ht : ∀ i, vz_v t i → vb b i = true) : vm_v u t = vm_v w t := by
  rcases vz_v_or t with ⟨i, hi⟩ | hn
  · rw [vm_v_v hi, vm_v_v hi]; exact h i (ht i hi)
  · rw [vm_v_c hn, vm_v_c hn]
theorem vm_ag_refl : vm_ag b u u := fun _ _ => rfl
theorem vm_ag_symm (h : vm_ag b u w) : vm_ag b w u := fun i hi => (h i hi).symm
theorem vm_ag_trans (h : vm_ag b u w) (h2 : vm_ag b w v) : vm_ag b u v := fun i hi => (h i hi).trans (h2 i hi)
theorem vm_ag_sub (h : vm_ag b1 u w) (hs : ∀ i, vb b i = true → vb b1 i = true) : vm_ag b u w := fun i hi => h i (hs i hi)
theorem vm_ok_ag (h : vm_ok b u) (ha : vm_ag b u w) : vm_ok b w := fun i hi => by rw [← ha i hi]; exact h i hi
/-- the value of a term that is bound is a value -/
theorem vm_v_va (h : vm_ok b u) (ht : ∀ i, vz_v t i → vb b i = true) (hk : vz_tk t) (ha : t ≠ 288230376151711744) : vz_va (vm_v u t) := by
  rcases vz_v_or t with ⟨i, hi⟩ | hn
  · rw [vm_v_v hi]; exact h i (ht i hi)
  · rw [vm_v_c hn]
    rcases hk with q | ⟨i, q⟩ | q
    · exact q
    · exact absurd q (hn i)
    · exact absurd q ha
theorem vz_va_l (h : vz_va x) : vx_rL x ∧ x < 144115188075855872 ∧ (x < 72057594037927936 → vx_rI x) := by
  obtain ⟨y, hy⟩ := h
  have h1 := vy_vr_l hy
  have h2 := vy_vr_n hy
  refine ⟨h1.2.1, h1.2.2.1, fun q => ?_⟩
  rw [(h2.2 q).1]
  exact (h2.2 q).2
theorem vz_tk_l (h : vz_tk t) : vx_rL t := by
  rcases h with q | ⟨i, q⟩ | q
  · exact (vz_va_l q).1
  · have := q.1
    have := q.2
    omega
  · omega
theorem vz_va_i (h : vx_rI x) : vz_va x := ⟨x, Or.inl ⟨rfl, h.1, h.2⟩⟩
theorem vm_rk_r {op a b : Int} : vx_rI (vm_rk op a b) := by
  unfold vm_rk
  split
  · exact vx_w_r _
  split
  · exact vx_w_r _
  split
  · exact vx_w_r _
  split
  · exact vx_rI_toInt _
  · exact vx_rI_toInt _
theorem vm_m1_ag (h : vm_ag b u w) (ht : ∀ i, vz_v t i → vb b i = true) : vm_m1 u t x ↔ vm_m1 w t x := by
  unfold vm_m1
  rw [vm_v_ag h ht]
theorem vm_at_ag {A f : Nat → Int} (h : vm_ag b u w) (ht : ∀ k, k < 4 → ∀ i, vz_v (A k) i → vb b i = true) : vm_at u A f → vm_at w A f :=
  fun q k hk => (vm_m1_ag h (ht k hk)).mp (q k hk)
theorem vm_at_eq {A f g : Nat → Int} (h : vr_eq 5 f g) (q : vm_at u A f) : vm_at u A g := fun k hk => by rw [← h (k + 1) (by omega)]; exact q k hk
theorem vm_ex_ag {D : vm_S} {e : Int} {A : Nat → Int} (h : vm_ag b u w) (ht : ∀ k, k < 4 → ∀ i, vz_v (A k) i → vb b i = true) : vm_ex D e A u → vm_ex D e A w :=
  fun ⟨f, h1, h2, h3⟩ => ⟨f, h1, h2, vm_at_ag h ht h3⟩
/-- a literal holds by the values of its variables -/
theorem vm_li_ag {P N : vm_S} {kd e : Int} {A : Nat → Int} (h : vm_ag b u w) (ht : ∀ k, k < 4 → ∀ i, vz_v (A k) i → vb b i = true) (q : vm_li P N kd e A u) : vm_li P N kd e A w := by
  obtain ⟨q1, q2, q3, q4⟩ := q
  refine ⟨fun t => vm_ex_ag h ht (q1 t), fun t q => q2 t (vm_ex_ag (vm_ag_symm h) ht q), fun t => ?_, fun t => ?_⟩
  · rw [← vm_v_ag h (ht 0 (by omega)), ← vm_v_ag h (ht 1 (by omega)), ← vm_v_ag h (ht 2 (by omega))]; exact q3 t
  · rw [← vm_v_ag h (ht 0 (by omega)), ← vm_v_ag h (ht 1 (by omega))]; exact q4 t
/-- a step that only asks -/
theorem vm_sp_ask {C : (Nat → Int) → Prop} {r : Int} (ok : vm_ok b u) (hb : ∀ i, vb b1 i = true → vb b i = true) (hc : ∀ u w, vm_ag b u w → C u → C w) (h : (r = 1 ∧ C u) ∨ (r = 0 ∧ ¬ C u)) : vm_sp b b1 C u r u := by
  refine ⟨vm_ag_refl, ?_⟩
  rcases h with ⟨h1, h2⟩ | ⟨h1, h2⟩
  · exact Or.inl ⟨h1, h2, fun i hi => ok i (hb i hi), fun w hw _ => vm_ag_sub hw hb⟩
  · exact Or.inr ⟨h1, fun w hw hC => h2 (hc w u (vm_ag_symm hw) hC)⟩
theorem vm_sp_iff {C C' : (Nat → Int) → Prop} {r : Int} (h : vm_sp b b1 C u r w) (hc : ∀ v, C v ↔ C' v) : vm_sp b b1 C' u r w := by
  have e : C = C' := funext (fun v => propext (hc v))
  rw [← e]; exact h
end
