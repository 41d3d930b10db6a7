/-! Which variables are bound: the reference -/
abbrev vz_bs (g : ve_H) (i : Nat) : Prop := vx_J g 657 i ≠ 0
def vz_ct (g : ve_H) : Nat := vr_n (fun i => decide (vx_J g 657 i ≠ 0)) 8
theorem vz_n_mono {p q : Nat → Bool} : ∀ n, (∀ i, i < n → p i = true → q i = true) → vr_n p n ≤ vr_n q n
  | 0, _ => Nat.le_refl _
  | n + 1, h => by
    have ih := vz_n_mono n (fun i hi => h i (by omega))
    show vr_n p n + (bif p n then 1 else 0) ≤ vr_n q n + (bif q n then 1 else 0)
    have := h n (by omega)
    cases hp : p n with
    | false => cases hq : q n <;> simp only [cond_true, cond_false] <;> omega
    | true => rw [this hp]; simp only [cond_true]; omega
theorem vz_n_lt {p q : Nat → Bool} : ∀ n, (∀ i, i < n → p i = true → q i = true) → (∃ i, i < n ∧ q i = true ∧ p i = false) → vr_n p n < vr_n q n
  | 0, _, ⟨i, hi, _⟩ => absurd hi (by omega)
  | n + 1, h, ⟨i, hi, h1, h2⟩ => by
    show vr_n p n + (bif p n then 1 else 0) < vr_n q n + (bif q n then 1 else 0)
    by_cases q0 : i = n
    · rw [q0] at h1 h2
      have := vz_n_mono n (fun i hi => h i (by omega))
      rw [h1, h2]; simp only [cond_true, cond_false]; omega
    · have ih := vz_n_lt n (fun i hi => h i (by omega)) ⟨i, by omega, h1, h2⟩
      have := h n (by omega)
      cases hp : p n with
      | false => cases hq : q n <;> simp only [cond_true, cond_false] <;> omega
      | true => rw [this hp]; simp only [cond_true]; omega
theorem vz_ct_le {g g1 : ve_H} (h : ∀ i, i < 8 → vz_bs g i → vz_bs g1 i) : vz_ct g ≤ vz_ct g1 := vz_n_mono 8 (fun i hi t => decide_eq_true (h i hi (of_decide_eq_true t)))
theorem vz_ct_lt {g g1 : ve_H} (h : ∀ i, i < 8 → vz_bs g i → vz_bs g1 i) (h2 : ∃ i, i < 8 ∧ vz_bs g1 i ∧ ¬ vz_bs g i) : vz_ct g < vz_ct g1 := by
  obtain ⟨i, hi, a, b⟩ := h2
  exact vz_n_lt 8 (fun i hi t => decide_eq_true (h i hi (of_decide_eq_true t))) ⟨i, hi, decide_eq_true a, decide_eq_false b⟩
theorem vt_lf_r {u : Int} (h : vt_vs u) : 0 ≤ vt_lf u ∧ vt_lf u < 281474976710656 := by
  have h1 := h.1
  have h2 := h.2.1
  unfold vt_lf
  split
  · omega
  split
  · omega
  split
  · omega
  split
  · omega
  split
  · omega
  · omega
theorem vy_vr_nv {t v : Int} (h : vy_vr t v) : t < 144115188075855872 := by
  rcases h with ⟨h1, h2, h3⟩ | ⟨u, hu, h1, h2⟩
  · omega
  · have := vt_lf_r hu; omega
section
variable {d i cl sd l : Nat} {h h1 g : ve_H} {ts : vy_T} {V Pd : vy_V} {O : vy_O} {F : vy_F} {L : vy_L} {op : Bool} {x y : Int}
theorem vc_47 {k : Nat} {t : Int} (hT : vx_T 625 672 h) (hl : l < 366) (hk : k < 4) (hx : x = l) (hy : y = k) (R : vy_tr t (vx_J h 645 (4 * l + k)) (vx_K h 646 (4 * l + k))) (ht : t ≠ 288230376151711744) : vx_CI d 47 [.ref 625, .int (vx_i x), .int (vx_i y)] h (fun r h1 => h1 = h ∧ ((r = 1 ∧ ∀ i, vz_v t i → vz_bs h i) ∨ (r = 0 ∧ ∃ i, vz_v t i ∧ ¬ vz_bs h i))) := by
  refine vg_47 hT ?_
  rw [show (4 * x + y).toNat = 4 * l + k by omega]
  rcases R with ⟨a1, a2⟩ | ⟨a1, a2, a3, a4⟩ | ⟨a1, a2⟩
  · have := vy_vr_nv a2
    exact ⟨by omega, fun _ => ⟨rfl, Or.inl ⟨rfl, fun i hi => by have := hi.2; omega⟩⟩, fun q => absurd a1 q⟩
  · refine ⟨by omega, fun q => absurd q (by omega), fun _ => ⟨by omega, fun q => absurd a1 q, fun _ => ⟨by omega, by omega, fun q => ⟨rfl, Or.inr ⟨rfl, (vx_K h 646 (4 * l + k)).toNat, ⟨by omega, by omega⟩, fun t => t q⟩⟩, fun q => ⟨rfl, Or.inl ⟨rfl, fun i hi => ?_⟩⟩⟩⟩⟩
    have e : i = (vx_K h 646 (4 * l + k)).toNat := by have := hi.2; omega
    rw [e]; exact q
  · exact absurd a2 ht
theorem vc_48 {k : Nat} {t : Int} (hT : vx_T 625 672 h) (hl : l < 366) (hk : k < 4) (hx : x = l) (hy : y = k) (R : vy_tr t (vx_J h 645 (4 * l + k)) (vx_K h 646 (4 * l + k))) : vx_CV d 48 [.ref 625, .int (vx_i x), .int (vx_i y)] h (fun h1 => vx_fr (fun a _ => a = 657) h h1 ∧ ∀ i, i < 8 → (vz_bs h1 i ↔ (vz_bs h i ∨ vz_v t i))) := by
  refine vg_48 hT ?_
  rw [show (4 * x + y).toNat = 4 * l + k by omega]
  rcases R with ⟨a1, a2⟩ | ⟨a1, a2, a3, a4⟩ | ⟨a1, a2⟩
  · have := vy_vr_nv a2
    exact ⟨by omega, fun _ => ⟨vx_fr_refl, fun i hi => ⟨Or.inl, fun u => u.resolve_right (fun hi => by have := hi.2; omega)⟩⟩, fun q => absurd q (by omega)⟩
  · refine ⟨by omega, fun q => absurd a1 q, fun _ => ⟨by omega, by omega, fun h5 e5 T5 => ⟨vx_fr_sJ vx_fr_refl e5 rfl, fun i hi => ?_⟩⟩⟩
    unfold vz_bs
    rw [e5, vx_J_sJ (by decide)]
    by_cases q : i = (vx_K h 646 (4 * l + k)).toNat
    · rw [if_pos ⟨rfl, q⟩]
      exact ⟨fun _ => Or.inr ⟨hi, by omega⟩, fun _ => by decide⟩
    · rw [if_neg (fun t => q t.2)]
      exact ⟨Or.inl, fun u => u.resolve_right (fun hi => q (by have := hi.2; omega))⟩
  · exact ⟨by omega, fun _ => ⟨vx_fr_refl, fun i hi => ⟨Or.inl, fun u => u.resolve_right (fun hi => by have h1 := hi.2; have h2 := hi.1; omega)⟩⟩, fun q => absurd q (by omega)⟩
/-- what stays while variables are bound -/
def vz_fz (h g : ve_H) : Prop := vx_fr (fun a _ => a = 657) h g
theorem vz_rq_fz (R : vy_rl h cl Pd F L) (f : vz_fz h g) {j : Nat} (hj : j < L.1) : vy_rq g (6 * cl + j) Pd F (L.2.1 j) (L.2.2.1 j) (L.2.2.2.1 j) (L.2.2.2.2 j) := vy_rq_fr (R.2.2 j hj) f ⟨by simp, by simp, by simp, by simp, fun k _ => by simp⟩
/-- a literal binds nothing more -/
def vz_cj (L : vy_L) (S : Nat → Prop) (j : Nat) : Prop := (L.2.1 j = 5 → (∀ i, vz_v (L.2.2.2.2 j 1) i → S i) → (∀ i, vz_v (L.2.2.2.2 j 2) i → S i) → ∀ i, vz_v (L.2.2.2.2 j 0) i → S i) ∧ (L.2.1 j = 61 → ((∀ i, vz_v (L.2.2.2.2 j 0) i → S i) ∨ (∀ i, vz_v (L.2.2.2.2 j 1) i → S i)) → (∀ i, vz_v (L.2.2.2.2 j 0) i → S i) ∧ (∀ i, vz_v (L.2.2.2.2 j 1) i → S i))
/-- within a pass over the literals -/
def vz_ps (h g0 g : ve_H) (L : vy_L) (v3 : Int) (j : Nat) : Prop := vx_T 625 672 g ∧ vz_fz h g ∧ (∀ i, i < 8 → vz_bs g i → vz_bd L i) ∧ (∀ i, i < 8 → vz_bs g0 i → vz_bs g i) ∧ ((v3 = 0 ∧ (∀ i, i < 8 → vz_bs g i → vz_bs g0 i) ∧ ∀ j', j' < j → vz_cj L (vz_bs g) j') ∨ (v3 = 1 ∧ vz_ct g0 < vz_ct g))
theorem vz_ps_bind {g0 g1 : ve_H} {v3 : Int} {j : Nat} {t : Int} (S : vz_ps h g0 g L v3 j) (T1 : vx_T 625 672 g1) (f : vx_fr (fun a _ => a = 657) g g1) (hb : ∀ i, i < 8 → (vz_bs g1 i ↔ (vz_bs g i ∨ vz_v t i))) (hd : ∀ i, vz_v t i → vz_bd L i) (hnew : v3 = 1 ∨ ∃ i, vz_v t i ∧ ¬ vz_bs g i) (j' : Nat) : vz_ps h g0 g1 L 1 j' := by
  obtain ⟨s1, s2, s3, s4, s5⟩ := S
  refine ⟨T1, vx_fr_trans s2 f, fun i hi t => ((hb i hi).mp t).elim (s3 i hi) (hd i), fun i hi t => (hb i hi).mpr (Or.inl (s4 i hi t)), Or.inr ⟨rfl, ?_⟩⟩
  have m1 := vz_ct_le (g := g) (g1 := g1) (fun i hi t => (hb i hi).mpr (Or.inl t))
  have m0 := vz_ct_le (g := g0) (g1 := g) s4
  rcases s5 with ⟨u, -⟩ | ⟨u, w⟩
  · rcases hnew with q | ⟨i, hi, hn⟩
    · omega
    · have := vz_ct_lt (g := g) (g1 := g1) (fun i hi t => (hb i hi).mpr (Or.inl t)) ⟨i, hi.1, (hb i hi.1).mpr (Or.inr hi), hn⟩
      omega
  · omega
theorem vz_ps_next {g0 : ve_H} {v3 : Int} {j : Nat} (S : vz_ps h g0 g L v3 j) (hj : vz_cj L (vz_bs g) j) : vz_ps h g0 g L v3 (j + 1) := by
  obtain ⟨s1, s2, s3, s4, s5⟩ := S
  refine ⟨s1, s2, s3, s4, s5.imp (fun u => ⟨u.1, u.2.1, fun j' hj' => ?_⟩) id⟩
  by_cases q : j' = j
  · rw [q]; exact hj
  · exact u.2.2 j' (by omega)
theorem vz_ps_skip {g0 : ve_H} {v3 : Int} {j : Nat} (S : vz_ps h g0 g L v3 j) (h1 : v3 = 1) (j' : Nat) : vz_ps h g0 g L v3 j' := by
  obtain ⟨s1, s2, s3, s4, s5⟩ := S
  exact ⟨s1, s2, s3, s4, Or.inr (s5.elim (fun u => absurd u.1 (by omega)) id)⟩
/-- one pass -/
theorem vc_49_100 {g0 : ve_H} {v1 v2 : Int} {P : ve_H → Prop} {O1 : Int} {m : Nat} (hcl : cl < 61) (R : vy_rl h cl Pd F L) (W : vz_wf O1 m L) (hv2 : v2 = 6 * (cl : Int) + L.1)
    (NX : ∀ g v3 v4, vz_ps h g0 g L v3 L.1 → vx_W (d + 1) 49 91 [some (.ref 625), some (.int (vx_i v1)), some (.int (vx_i v2)), some (.int (vx_i v3)), v4] [] g (vx_RV P)) :
    ∀ (n j : Nat) (g : ve_H) (v3 v4 : Int), n = L.1 - j → j ≤ L.1 → v4 = 6 * (cl : Int) + j → vz_ps h g0 g L v3 j → vx_W (d + 1) 49 100 [some (.ref 625), some (.int (vx_i v1)), some (.int (vx_i v2)), some (.int (vx_i v3)), some (.int (vx_i v4))] [] g (vx_RV P) := by
  have L6 := R.2.1
  intro n
  induction n with
  | zero =>
    intro j g v3 v4 hn hj h4 S
    have e : j = L.1 := by omega
    subst e
    exact vg_49_100 S.1 ⟨by omega, by omega, fun _ => NX g v3 _ S, fun q => absurd q (by omega)⟩
  | succ n ih =>
    intro j g v3 v4 hn hj h4 S
    have hj1 : j < L.1 := by omega
    have hll : 6 * cl + j < 366 := by omega
    obtain ⟨w1, w2, w3, -, w5⟩ := W j hj1
    have hv : v4 = ((6 * cl + j : Nat) : Int) := by omega
    have et : v4.toNat = 6 * cl + j := by omega
    -- from the next literal on
    have G212 : ∀ (g : ve_H) (v3 : Int), vz_ps h g0 g L v3 (j + 1) → vx_W (d + 1) 49 212 [some (.ref 625), some (.int (vx_i v1)), some (.int (vx_i v2)), some (.int (vx_i v3)), some (.int (vx_i v4))] [] g (vx_RV P) := fun g v3 S => vg_49_212 S.1 (ih (j + 1) g v3 (v4 + 1) (by omega) (by omega) (by omega) S)
    have Q0 := vz_rq_fz R S.2.1 hj1
    by_cases k5 : L.2.1 j = 5
    · -- a reckoning
      have kr : ∀ g, vz_fz h g → vx_J g 643 (6 * cl + j) = 3 := fun g f => by
        rw [(vz_rq_fz R f hj1).2.1, k5]; rfl
      have G156 : ∀ (g : ve_H) (v3 : Int), vz_ps h g0 g L v3 (j + 1) → vx_W (d + 1) 49 156 [some (.ref 625), some (.int (vx_i v1)), some (.int (vx_i v2)), some (.int (vx_i v3)), some (.int (vx_i v4))] [] g (vx_RV P) := by
        intro g v3 S
        refine vg_49_156 S.1 ?_
        rw [et, kr g S.2.1]
        exact ⟨by omega, fun _ => G212 g v3 S, fun q => absurd q (by decide)⟩
      obtain ⟨-, -, mm, m1, m2, -, -, m4, -⟩ := Q0
      have m3 := (m4 k5).1
      have a5 := w5 (Or.inl k5)
      refine vg_49_100 S.1 ?_
      rw [et, kr g S.2.1]
      refine ⟨by omega, by omega, fun q => absurd q (by omega), fun _ => ⟨by omega, fun q => absurd rfl q, fun _ => ?_⟩⟩
      refine vx_CI_mono (vc_47 (k := 0) S.1 hll (by omega) hv rfl (m2 0 (by omega)) (a5 0 (by omega))) ?_
      rintro r6 h6 _ ⟨rfl, c6⟩ _
      rcases c6 with ⟨rfl, c6⟩ | ⟨rfl, i0, c6, c6'⟩
      · exact ⟨fun _ => G156 h6 v3 (vz_ps_next S ⟨fun _ _ _ => c6, fun t => absurd t (by omega)⟩), fun t => absurd t (by decide)⟩
      refine ⟨fun t => absurd rfl t, fun _ => vx_CI_mono (vc_47 (k := 1) S.1 hll (by omega) hv rfl (m2 1 (by omega)) (a5 1 (by omega))) ?_⟩
      rintro r8 h8 _ ⟨rfl, c8⟩ _
      rcases c8 with ⟨rfl, c8⟩ | ⟨rfl, i1, c8, c8'⟩
      · refine ⟨fun t => absurd t (by decide), fun _ => vx_CI_mono (vc_47 (k := 2) S.1 hll (by omega) hv rfl (m2 2 (by omega)) (a5 2 (by omega))) ?_⟩
        rintro r10 h10 _ ⟨rfl, c10⟩ _
        rcases c10 with ⟨rfl, c10⟩ | ⟨rfl, i2, c10, c10'⟩
        · refine ⟨fun t => absurd t (by decide), fun _ => vx_CV_mono (vc_48 (k := 0) S.1 hll (by omega) hv rfl (m2 0 (by omega))) ?_⟩
          rintro h12 ⟨f12, b12⟩ T12
          refine G156 h12 1 (vz_ps_bind S T12 f12 b12 (fun i hi U hU => ?_) (Or.inr ⟨i0, c6, c6'⟩) (j + 1))
          exact (hU j hj1).2.1 k5 (fun i hi => S.2.2.1 i hi.1 (c8 i hi) U hU) (fun i hi => S.2.2.1 i hi.1 (c10 i hi) U hU) i hi
        · exact ⟨fun _ => G156 h10 v3 (vz_ps_next S ⟨fun _ _ t => absurd (t i2 c10) c10', fun t => absurd t (by omega)⟩), fun t => absurd rfl t⟩
      · exact ⟨fun _ => G156 h8 v3 (vz_ps_next S ⟨fun _ t => absurd (t i1 c8) c8', fun t => absurd t (by omega)⟩), fun t => absurd rfl t⟩
    · have kr : vx_J g 643 (6 * cl + j) ≠ 3 := by
        rw [Q0.2.1]
        unfold vy_rk
        split
        · decide
        split
        · decide
        · first | decide | (rw [if_neg k5]; decide)
      refine vg_49_100 S.1 ?_
      rw [et]
      refine ⟨by omega, by omega, fun q => absurd q (by omega), fun _ => ⟨by omega, fun _ => ?_, fun q => absurd q kr⟩⟩
      refine vg_49_156 S.1 ?_
      rw [et]
      have NO : ∀ v3, vz_ps h g0 g L v3 j → L.2.1 j ≠ 61 → vx_W (d + 1) 49 212 [some (.ref 625), some (.int (vx_i v1)), some (.int (vx_i v2)), some (.int (vx_i v3)), some (.int (vx_i v4))] [] g (vx_RV P) := fun v3 S t => G212 g v3 (vz_ps_next S ⟨fun u => absurd u k5, fun u => absurd u t⟩)
      obtain ⟨-, q2, mm, m1, m2, -, -, -, m4⟩ := Q0
      by_cases k61 : L.2.1 j = 61
      · have k2 : vx_J g 643 (6 * cl + j) = 2 := by rw [q2, k61]; rfl
        obtain ⟨mm2, k644⟩ := m4 (Or.inl k61)
        have k644 : vx_J g 644 (6 * cl + j) = 61 := by rw [k644, k61]; rfl
        have a5 := w5 (Or.inr (Or.inl (Or.inl k61)))
        rw [k2, k644]
        refine ⟨by omega, fun q => absurd rfl q, fun _ => ⟨by omega, fun q => absurd rfl q, fun _ => ?_⟩⟩
        refine vx_CI_mono (vc_47 (k := 0) S.1 hll (by omega) hv rfl (m2 0 (by omega)) (a5 0 (by omega))) ?_
        rintro r5 h5 _ ⟨rfl, c5⟩ _
        refine vx_CI_mono (vc_47 (k := 1) S.1 hll (by omega) hv rfl (m2 1 (by omega)) (a5 1 (by omega))) ?_
        rintro r6 h6 _ ⟨rfl, c6⟩ _
        refine ⟨fun t => G212 h6 v3 (vz_ps_next S ⟨fun u => absurd u k5, fun _ u => ?_⟩), fun t => vx_CV_mono (vc_48 (k := 0) S.1 hll (by omega) hv rfl (m2 0 (by omega))) ?_⟩
        · rcases c5 with ⟨e5, c5⟩ | ⟨e5, i0, c5, c5'⟩
          · rcases c6 with ⟨e6, c6⟩ | ⟨e6, i1, c6, c6'⟩
            · exact ⟨c5, c6⟩
            · omega
          · rcases c6 with ⟨e6, c6⟩ | ⟨e6, i1, c6, c6'⟩
            · omega
            · rcases u with u | u
              · exact absurd (u i0 c5) c5'
              · exact absurd (u i1 c6) c6'
        · rintro h8 ⟨f8, b8⟩ T8
          have BD : ∀ k, (k = 0 ∨ k = 1) → ∀ i, vz_v (L.2.2.2.2 j k) i → vz_bd L i := by
            intro k hk i hi U hU
            have := (hU j hj1).2.2 k61 (by
              rcases c5 with ⟨e5, c5⟩ | ⟨e5, i0, c5, c5'⟩
              · exact Or.inl (fun i hi => S.2.2.1 i hi.1 (c5 i hi) U hU)
              · rcases c6 with ⟨e6, c6⟩ | ⟨e6, i1, c6, c6'⟩
                · exact Or.inr (fun i hi => S.2.2.1 i hi.1 (c6 i hi) U hU)
                · omega)
            rcases hk with rfl | rfl
            · exact this.1 i hi
            · exact this.2 i hi
          have m28 : vy_tr (L.2.2.2.2 j 1) (vx_J h8 645 (4 * (6 * cl + j) + 1)) (vx_K h8 646 (4 * (6 * cl + j) + 1)) := by
            rw [vx_fr_J f8 (by simp), vx_fr_K f8 (by simp)]; exact m2 1 (by omega)
          refine vx_CV_mono (vc_48 (k := 1) T8 hll (by omega) hv rfl m28) ?_
          rintro h9 ⟨f9, b9⟩ T9
          -- both at once
          have b98 : ∀ i, i < 8 → (vz_bs h9 i ↔ (vz_bs h6 i ∨ vz_v (L.2.2.2.2 j 0) i ∨ vz_v (L.2.2.2.2 j 1) i)) := fun i hi => by
            rw [b9 i hi, b8 i hi, or_assoc]
          have MN : ∀ i, i < 8 → vz_bs h6 i → vz_bs h9 i := fun i hi u => (b98 i hi).mpr (Or.inl u)
          obtain ⟨s1, s2, s3, s4, s5⟩ := S
          have NW : ∃ i, i < 8 ∧ vz_bs h9 i ∧ ¬ vz_bs h6 i := by
            rcases c5 with ⟨e5, c5⟩ | ⟨e5, i0, c5, c5'⟩
            · rcases c6 with ⟨e6, c6⟩ | ⟨e6, i1, c6, c6'⟩
              · omega
              · exact ⟨i1, c6.1, (b98 i1 c6.1).mpr (Or.inr (Or.inr c6)), c6'⟩
            · exact ⟨i0, c5.1, (b98 i0 c5.1).mpr (Or.inr (Or.inl c5)), c5'⟩
          have c1 := vz_ct_lt MN NW
          have c0 := vz_ct_le (g := g0) (g1 := h6) s4
          refine G212 h9 1 ⟨T9, vx_fr_trans s2 (vx_fr_trans f8 f9), fun i hi u => ?_, fun i hi u => MN i hi (s4 i hi u), Or.inr ⟨rfl, by omega⟩⟩
          rcases (b98 i hi).mp u with u | u | u
          · exact s3 i hi u
          · exact BD 0 (Or.inl rfl) i u
          · exact BD 1 (Or.inr rfl) i u
      · refine ⟨by omega, fun _ => NO v3 S k61, fun k2 => ⟨by omega, fun _ => NO v3 S k61, fun k644 => ?_⟩⟩
        exfalso
        have hrel : vy_rel (L.2.1 j) := by
          rcases w1 with u | u | u | u
          · rw [q2, u] at k2; exact absurd k2 (by decide)
          · rw [q2, u] at k2; exact absurd k2 (by decide)
          · exact absurd u k5
          · exact u
        have := (m4 hrel).2
        rw [this] at k644
        unfold vy_sr at k644
        split at k644 <;> omega
end
