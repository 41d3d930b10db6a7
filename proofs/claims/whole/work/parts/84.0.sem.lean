/-! What follows, stratum by stratum, round by round -/
section
variable {o : Nat} {h : ve_H} {R : vu_R} {L : vy_L}
/-- where all variables are bound, each literal has its step -/
theorem vz_full {O1 : Int} {m n : Nat} {σ : Nat → Nat} {b : Nat → Int} (W : vz_wf O1 m L) (S : vz_st h o L n σ b) (hn : n ≤ L.1) (hu : ∀ j, j < L.1 → (∀ e, e < n → σ e ≠ j) → n < L.1 → L.2.1 j ≠ 14 ∧ ¬ vz_rd (L.2.1 j) (L.2.2.2.2 j) (fun i => vb (b n) i = true)) (al : ∀ v, v < m → vz_bd L v) : n = L.1 := by
  by_cases q : n = L.1
  · exact q
  · exfalso
    have bd : ∀ v, v < m → vb (b n) v = true := fun v hv => (vz_st_bd W S hn hu v).mpr (al v hv)
    have ex : ∃ j, j < L.1 ∧ ∀ e, e < n → σ e ≠ j := by
      apply Classical.byContradiction
      intro t
      have t2 : ∀ j, j < L.1 → ∃ e, e < n ∧ σ e = j := fun j hj => Classical.byContradiction (fun s => t ⟨j, hj, fun e he ee => s ⟨e, he, ee⟩⟩)
      have pg := vr_pig L.1 n (fun j => if hj : j < L.1 then (t2 j hj).choose else 0) (fun j hj => by
        show (if hj : j < L.1 then (t2 j hj).choose else 0) < n
        rw [dif_pos hj]
        exact (t2 j hj).choose_spec.1) (fun i j hi hj e => by
        have e' : (if hj : i < L.1 then (t2 i hj).choose else 0) = (if hj : j < L.1 then (t2 j hj).choose else 0) := e
        rw [dif_pos hi, dif_pos hj] at e'
        rw [← (t2 i hi).choose_spec.2, ← (t2 j hj).choose_spec.2, e'])
      omega
    obtain ⟨j, hj, hjn⟩ := ex
    have t := hu j hj hjn (by omega)
    have w := W j hj
    have all : ∀ k, k < 4 → ∀ i, vz_v (L.2.2.2.2 j k) i → vb (b n) i = true := fun k hk i hi => bd i (w.2.2.2.1 k hk i hi)
    exact t.2 ⟨fun _ => Or.inl (all 0 (by omega)), fun _ => ⟨all 1 (by omega), all 2 (by omega)⟩, fun _ _ => all⟩
/-- the plan of a rule whose variables are bound -/
theorem vm_plan (C : vu_cr h o R) (W : vz_wf R.2.2.1.1 R.2.2.2.1 R.2.2.2.2) (al : ∀ v, v < R.2.2.2.1 → vz_bd R.2.2.2.2 v) (ha : vz_aw R.2.2.2.1 false R.2.1) : ∃ σ b sd, vz_st h o R.2.2.2.2 R.2.2.2.2.1 σ b ∧ vx_J h o 15 = sd ∧ (∀ v, v < R.2.2.2.1 → vb (b R.2.2.2.2.1) v = true) ∧ (R.2.2.1.1 ≠ -1 → sd = 7) ∧ (R.2.2.1.1 = -1 → ∀ e : Nat, sd ≤ e → e ≤ R.2.2.2.2.1 → ∀ i, vu_go R i → vb (b e) i = true) := by
  obtain ⟨_, _, _, _, _, G, r, _, g2, ⟨n, σ, b, n1, n2, n3, n4, n5, n6⟩, _⟩ := C
  have e := vz_full W n2 n1 n4 al
  subst e
  have bd : ∀ v, v < R.2.2.2.1 → vb (b R.2.2.2.2.1) v = true := fun v hv => (vz_st_bd W n2 (Nat.le_refl _) n4 v).mpr (al v hv)
  refine ⟨σ, b, vx_J h o 15, n2, rfl, bd, n5, fun q e he1 he2 i hi => ?_⟩
  obtain ⟨s, s1, s2, s3⟩ := n6 q
  by_cases q2 : s < R.2.2.2.2.1
  · have t := (s3 q2).2 i ((g2 i).mpr hi)
    obtain ⟨e', t1, t2⟩ := ((n2.2.1 s (by omega)).2 i).mp t
    exact ((n2.2.1 e he2).2 i).mpr ⟨e', by omega, t2⟩
  · rw [show e = R.2.2.2.2.1 by omega]
    apply bd
    unfold vu_go at hi
    by_cases q3 : R.1 = -1
    · rw [if_pos q3] at hi; exact hi
    · rw [if_neg q3] at hi
      obtain ⟨k, hk, hk2⟩ := hi
      exact (ha k).1 i hk2
end
/-- facts of a stratum -/
def vm_fs (S : vu_S) (st : Nat → Nat) (s : Nat) : vm_S := fun f => ∃ j, j < S.2.2.2.2.1 ∧ vr_eq 5 (S.2.2.2.2.2 j) f ∧ st (f 0).toNat = s
/-- all the ways in which a body holds, each once -/
def vm_lg (R : vu_R) (D : vm_S) (l : List (Nat → Int)) : Prop := (∀ u, u ∈ l → vm_sat D R.2.2.2.2 u ∧ ∀ v, v < R.2.2.2.1 → vz_va (u v)) ∧ (∀ u, vm_sat D R.2.2.2.2 u → ∃ w, w ∈ l ∧ ∀ i, i < R.2.2.2.1 → w i = u i) ∧ l.Pairwise (vm_dt R.2.2.2.1)
def vm_kt (R : vu_R) : Nat := R.2.2.1.2.1.toNat
def vm_tr (R : vu_R) (u : Nat → Int) (a : Int) : Nat → Int := fun k => if k = vm_kt R + 1 then a else vm_ky R (vm_kt R) u k
def vm_tt (R : vu_R) (D : vm_S) : vm_S := fun f => ∃ l, vm_lg R D l ∧ ∃ u, u ∈ l ∧ ∃ a, vm_am R.2.2.1.1 (vm_ws R (vm_kt R) l (vm_ky R (vm_kt R) u)) = some a ∧ vr_eq 5 f (vm_tr R u a)
/-- what one rule gives -/
def vm_nr (R : vu_R) (tot : Prop) (D : vm_S) : vm_S := fun f => (R.2.2.1.1 = -1 ∧ ∃ u, vm_sat D R.2.2.2.2 u ∧ vr_eq 5 f (vm_gl R u)) ∨ (R.2.2.1.1 ≠ -1 ∧ tot ∧ vm_tt R D f)
def vm_nw (S : vu_S) (st : Nat → Nat) (s : Nat) (tot : Prop) (D : vm_S) : vm_S := fun f => ∃ r, r < S.2.2.1 ∧ st (S.2.2.2.1 r).1.toNat = s ∧ vm_nr (S.2.2.2.1 r) tot D f
def vm_rd (S : vu_S) (st : Nat → Nat) (s : Nat) (B : vm_S) : Nat → vm_S
  | 0 => B
  | t + 1 => fun f => vm_rd S st s B t f ∨ vm_nw S st s (t = 0) (vm_rd S st s B t) f
def vm_ml (S : vu_S) (st : Nat → Nat) : Nat → vm_S
  | 0 => fun _ => False
  | s + 1 => fun f => ∃ t, vm_rd S st s (fun f => vm_ml S st s f ∨ vm_fs S st s f) t f
def vm_ba (S : vu_S) (st : Nat → Nat) (s : Nat) : vm_S := fun f => vm_ml S st s f ∨ vm_fs S st s f
abbrev vm_mt (S : vu_S) (st : Nat → Nat) (s t : Nat) : vm_S := vm_rd S st s (vm_ba S st s) t
/-- too many -/
def vm_big (S : vu_S) (st : Nat → Nat) (N : Nat) : Prop := (∃ (s t : Nat) (rr : Nat → Nat → Int), s < N ∧ (∀ i, i < 201 → vm_mt S st s t (rr i)) ∧ ∀ i j, i < 201 → j < 201 → vr_eq 5 (rr i) (rr j) → i = j) ∨ ∃ (s r : Nat) (us : Nat → Nat → Int), s < N ∧ r < S.2.2.1 ∧ st (S.2.2.2.1 r).1.toNat = s ∧ (S.2.2.2.1 r).2.2.1.1 ≠ -1 ∧ (∀ i, i < 201 → vm_sat (vm_mt S st s 0) (S.2.2.2.1 r).2.2.2.2 (us i)) ∧ ∀ i j, i < 201 → j < 201 → vr_eq 5 (vm_ky (S.2.2.2.1 r) (vm_kt (S.2.2.2.1 r)) (us i)) (vm_ky (S.2.2.2.1 r) (vm_kt (S.2.2.2.1 r)) (us j)) → i = j
section
variable {S : vu_S} {st : Nat → Nat} {s t : Nat} {B D D' : vm_S} {R : vu_R} {tot : Prop} {f g : Nat → Int}
theorem vm_nr_cg : vm_cg 5 (vm_nr R tot D) := by
  rintro f g e (⟨q, u, u1, u2⟩ | ⟨q, q2, l, l1, u, u1, a, a1, a2⟩)
  · exact Or.inl ⟨q, u, u1, vr_eq_trans (vr_eq_symm e) u2⟩
  · exact Or.inr ⟨q, q2, l, l1, u, u1, a, a1, vr_eq_trans (vr_eq_symm e) a2⟩
theorem vm_nw_cg : vm_cg 5 (vm_nw S st s tot D) := by
  rintro f g e ⟨r, r1, r2, r3⟩
  exact ⟨r, r1, r2, vm_nr_cg f g e r3⟩
theorem vm_rd_cg (hB : vm_cg 5 B) : ∀ t, vm_cg 5 (vm_rd S st s B t)
  | 0 => hB
  | t + 1 => by
    rintro f g e (q | q)
    · exact Or.inl (vm_rd_cg hB t f g e q)
    · exact Or.inr (vm_nw_cg f g e q)
theorem vm_fs_cg : vm_cg 5 (vm_fs S st s) := by
  rintro f g e ⟨j, j1, j2, j3⟩
  exact ⟨j, j1, vr_eq_trans j2 e, by rw [← e 0 (by omega)]; exact j3⟩
theorem vm_ml_cg : ∀ s, vm_cg 5 (vm_ml S st s)
  | 0 => fun _ _ _ q => q
  | s + 1 => by
    rintro f g e ⟨t, q⟩
    refine ⟨t, vm_rd_cg ?_ t f g e q⟩
    rintro f g e (q | q)
    · exact Or.inl (vm_ml_cg s f g e q)
    · exact Or.inr (vm_fs_cg f g e q)
theorem vm_ba_cg : vm_cg 5 (vm_ba S st s) := by
  rintro f g e (q | q)
  · exact Or.inl (vm_ml_cg s f g e q)
  · exact Or.inr (vm_fs_cg f g e q)
theorem vm_rd_mono {t' : Nat} (h : t ≤ t') (q : vm_rd S st s B t f) : vm_rd S st s B t' f := by
  induction t' with
  | zero => rw [show t = 0 by omega] at q; exact q
  | succ t' ih =>
    by_cases e : t = t' + 1
    · rw [e] at q; exact q
    · exact Or.inl (ih (by omega))
theorem vm_gl_0 (h : R.1 ≠ -1) {u : Nat → Int} : vm_gl R u 0 = R.1 := by
  unfold vm_gl
  rw [if_neg h]
  rfl
/-- what a rule gives is of its head's predicate -/
theorem vm_nr_0 (h : R.1 ≠ -1) (q : vm_nr R tot D f) : f 0 = R.1 := by
  rcases q with ⟨_, u, _, e⟩ | ⟨_, _, l, _, u, _, a, _, e⟩
  · rw [e 0 (by omega), vm_gl_0 h]
  · rw [e 0 (by omega)]
    show (if 0 = vm_kt R + 1 then a else vm_ky R (vm_kt R) u 0) = R.1
    rw [if_neg (by omega), vm_ky_n (by omega), vm_gl_0 h]
theorem vm_nw_0 (hW : ∀ r, r < S.2.2.1 → (S.2.2.2.1 r).1 ≠ -1) (q : vm_nw S st s tot D f) : st (f 0).toNat = s := by
  obtain ⟨r, r1, r2, r3⟩ := q
  rw [vm_nr_0 (hW r r1) r3]
  exact r2
theorem vm_rd_ne (hW : ∀ r, r < S.2.2.1 → (S.2.2.2.1 r).1 ≠ -1) (hs : st (f 0).toNat ≠ s) : ∀ t, vm_rd S st s B t f → B f
  | 0, q => q
  | t + 1, q => by
    rcases q with q | q
    · exact vm_rd_ne hW hs t q
    · exact absurd (vm_nw_0 hW q) hs
theorem vm_ml_lt (hW : ∀ r, r < S.2.2.1 → (S.2.2.2.1 r).1 ≠ -1) : ∀ s, vm_ml S st s f → st (f 0).toNat < s
  | 0, q => absurd q (fun t => t)
  | s + 1, q => by
    obtain ⟨t, q⟩ := q
    by_cases e : st (f 0).toNat = s
    · omega
    · rcases vm_rd_ne hW e t q with q | ⟨_, _, _, q⟩
      · have := vm_ml_lt hW s q; omega
      · exact absurd q e
theorem vm_mt_le (hW : ∀ r, r < S.2.2.1 → (S.2.2.2.1 r).1 ≠ -1) (q : vm_mt S st s t f) : st (f 0).toNat ≤ s := by
  by_cases e : st (f 0).toNat = s
  · omega
  · rcases vm_rd_ne hW e t q with q | ⟨_, _, _, q⟩
    · have := vm_ml_lt hW s q; omega
    · exact absurd q e
/-- below the stratum nothing changes -/
theorem vm_mt_low (hW : ∀ r, r < S.2.2.1 → (S.2.2.2.1 r).1 ≠ -1) (hs : st (f 0).toNat ≠ s) {t' : Nat} (q : vm_mt S st s t f) : vm_mt S st s t' f := vm_rd_mono (Nat.zero_le _) (vm_rd_ne hW hs t q)
theorem vm_ml_mono {s' : Nat} (h : s ≤ s') (q : vm_ml S st s f) : vm_ml S st s' f := by
  induction s' with
  | zero => rw [show s = 0 by omega] at q; exact q
  | succ s' ih =>
    by_cases e : s = s' + 1
    · rw [e] at q; exact q
    · exact ⟨0, Or.inl (ih (by omega))⟩
theorem vm_mt_ml (q : vm_mt S st s t f) : vm_ml S st (s + 1) f := ⟨t, q⟩
/-- literals look at their predicates alone -/
theorem vm_li_D {P N P' N' : vm_S} {kd e : Int} {A u : Nat → Int} (h1 : kd = 14 → ∀ f, f 0 = e → P f → P' f) (h2 : kd = 15 → ∀ f, f 0 = e → N' f → N f) (q : vm_li P N kd e A u) : vm_li P' N' kd e A u := by
  refine ⟨fun k => ?_, fun k => ?_, q.2.2.1, q.2.2.2⟩
  · obtain ⟨f, f1, f2, f3⟩ := q.1 k
    exact ⟨f, h1 k f f2 f1, f2, f3⟩
  · rintro ⟨f, f1, f2, f3⟩
    exact q.2.1 k ⟨f, h2 k f f2 f1, f2, f3⟩
theorem vm_sat_D {L : vy_L} {u : Nat → Int} (h : ∀ j, j < L.1 → (L.2.1 j = 14 → ∀ f, f 0 = L.2.2.1 j → D f → D' f) ∧ (L.2.1 j = 15 → ∀ f, f 0 = L.2.2.1 j → D' f → D f)) (q : vm_sat D L u) : vm_sat D' L u := fun j hj => vm_li_D (h j hj).1 (h j hj).2 (q j hj)
end
