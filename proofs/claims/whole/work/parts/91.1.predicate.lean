/-! predicate: the pair -/
section
variable {n n2 : Nat} {t : Nat → Nat} {rr rr2 : Nat → Nat → Int} {x : Int}
theorem vr_n_perm {p : Nat → Bool} (lt : ∀ j, j < n → t j < n) (inj : ∀ i j, i < n → j < n → t i = t j → i = j) : ∀ m, m ≤ n → vr_n (fun j => decide (t j < m) && p (t j)) n = vr_n p m
  | 0, _ => vr_n_zero n (fun j _ => by
    show (decide (t j < 0) && p (t j)) = false
    rw [decide_eq_false (by omega)]
    rfl)
  | m + 1, hm => by
    obtain ⟨j0, j1, j2⟩ := vz_pig n t lt inj m (by omega)
    have ne2 : ∀ j, j < n → j ≠ j0 → t j ≠ m := fun j hj ne e => ne (inj j j0 hj j1 (e.trans j2.symm))
    have same : ∀ j, j < n → j ≠ j0 → (decide (t j < m) && p (t j)) = (decide (t j < m + 1) && p (t j)) := fun j hj ne => by
      have := ne2 j hj ne
      by_cases q : t j < m
      · rw [decide_eq_true q, decide_eq_true (show t j < m + 1 by omega)]
      · rw [decide_eq_false q, decide_eq_false (show ¬ t j < m + 1 by omega)]
    show _ = vr_n p m + (bif p m then 1 else 0)
    cases hp : p m with
    | true =>
      rw [vr_n_one (p := fun j => decide (t j < m) && p (t j)) n j1 ?_ ?_ same, vr_n_perm lt inj m (by omega)]
      · rfl
      · show (decide (t j0 < m) && p (t j0)) = false
        rw [decide_eq_false (by omega)]
        rfl
      · show (decide (t j0 < m + 1) && p (t j0)) = true
        rw [decide_eq_true (show t j0 < m + 1 by omega), j2, hp]
        rfl
    | false =>
      rw [vr_n_congr (q := fun j => decide (t j < m) && p (t j)) n (fun j hj => ?_), vr_n_perm lt inj m (by omega)]
      · rfl
      · by_cases e : j = j0
        · show (decide (t j < m + 1) && p (t j)) = (decide (t j < m) && p (t j))
          rw [e, j2, hp, Bool.and_false, Bool.and_false]
        · exact (same j hj e).symm
/-- the same rows in two orders: as many of a kind -/
theorem vr_n_rows {w : Nat} {p p2 : Nat → Bool} (hn : n2 = n) (dj : ∀ i j, i < n → j < n → vr_eq w (rr i) (rr j) → i = j) (A : ∀ i, i < n → ∃ j, j < n2 ∧ vr_eq w (rr i) (rr2 j)) (e : ∀ i j, i < n → j < n2 → vr_eq w (rr i) (rr2 j) → p i = p2 j) : vr_n p n = vr_n p2 n2 := by
  subst hn
  have T : ∀ i, ∃ j, i < n2 → j < n2 ∧ vr_eq w (rr i) (rr2 j) := fun i => by
    by_cases hi : i < n2
    · obtain ⟨j, j1, j2⟩ := A i hi
      exact ⟨j, fun _ => ⟨j1, j2⟩⟩
    · exact ⟨0, fun t => absurd t hi⟩
  obtain ⟨t, ht⟩ : ∃ t : Nat → Nat, ∀ i, i < n2 → t i < n2 ∧ vr_eq w (rr i) (rr2 (t i)) := ⟨fun i => (T i).choose, fun i hi => (T i).choose_spec hi⟩
  have inj : ∀ i j, i < n2 → j < n2 → t i = t j → i = j := fun i j hi hj e => by
    have a := (ht i hi).2
    rw [e] at a
    exact dj i j hi hj (vr_eq_trans a (vr_eq_symm (ht j hj).2))
  rw [← vr_n_perm (p := p2) (fun j hj => (ht j hj).1) inj n2 (Nat.le_refl _)]
  refine vr_n_congr n2 (fun j hj => ?_)
  show p j = (decide (t j < n2) && p2 (t j))
  rw [decide_eq_true (ht j hj).1, e j (t j) hj (ht j hj).1 (ht j hj).2]
  rfl
theorem vr_n_fst {w : Nat} (hw : 0 < w) (hn : n2 = n) (dj : ∀ i j, i < n → j < n → vr_eq w (rr i) (rr j) → i = j) (A : ∀ i, i < n → ∃ j, j < n2 ∧ vr_eq w (rr i) (rr2 j)) : vr_n (fun i => decide (rr i 0 = x)) n = vr_n (fun i => decide (rr2 i 0 = x)) n2 :=
  vr_n_rows hn dj A (fun i j _ _ e => by rw [e 0 hw])
theorem vm_cl_n : ∀ n, (vm_cl rr x n).length = vr_n (fun i => decide (rr i 0 = x)) n
  | 0 => rfl
  | n + 1 => by
    show (if rr n 0 = x then n :: vm_cl rr x n else vm_cl rr x n).length = vr_n (fun i => decide (rr i 0 = x)) n + (bif decide (rr n 0 = x) then 1 else 0)
    by_cases q : rr n 0 = x
    · rw [if_pos q, decide_eq_true q, List.length_cons, vm_cl_n n]
      rfl
    · rw [if_neg q, decide_eq_false q, vm_cl_n n]
      rfl
end
/-- what predicate tells of predicate p -/
def vi_prd (S : vu_S) (st : Nat → Nat) (tn u : Int) (p : Nat) (y : Int) : Int := if y = 0 then S.1.2.2 p else if y = 1 then ((st p : Nat) : Int) else if y = 2 then ((vr_n (fun r => decide ((S.2.2.2.1 r).1 = (p : Int))) S.2.2.1 : Nat) : Int) else if y = 3 then ((vr_n (fun i => decide (S.2.2.2.2.2 i 0 = (p : Int))) S.2.2.2.2.1 : Nat) : Int) else if y = 4 then tn else if y = 5 then ((vn_kl u : Nat) : Int) else if y < 100 then -1 else if 100 + ((vn_kl u : Nat) : Int) ≤ y then -1 else vx_by u (vn_kl u - 1 - (y - 100).toNat)
section
variable {d L n pi sd p : Nat} {S S' : vu_S} {Pd : vy_V} {st : Nat → Nat} {RR : Nat → vu_R} {xs : Nat → Int32} {h h1 : ve_H} {x y u tn : Int} {I' : ve_H → Prop}
theorem vi_prd_n (q : y ≠ 0 ∧ y ≠ 1 ∧ y ≠ 2 ∧ y ≠ 3 ∧ y ≠ 4 ∧ y ≠ 5 ∧ True) : vi_prd S st tn u p y = if y < 100 then -1 else if 100 + ((vn_kl u : Nat) : Int) ≤ y then -1 else vx_by u (vn_kl u - 1 - (y - 100).toNat) := by
  obtain ⟨q0, q1, q2, q3, q4, q5, _⟩ := q
  unfold vi_prd
  rw [if_neg q0, if_neg q1, if_neg q2, if_neg q3, if_neg q4, if_neg q5]
theorem vi_prd_lo (q : y ≠ 0 ∧ y ≠ 1 ∧ y ≠ 2 ∧ y ≠ 3 ∧ y ≠ 4 ∧ y ≠ 5 ∧ True) (q2 : y < 100) : vi_prd S st tn u p y = -1 := by
  rw [vi_prd_n q, if_pos q2]
theorem vi_prd_hi (q : 100 + ((vn_kl u : Nat) : Int) ≤ y) : vi_prd S st tn u p y = -1 := by
  rw [vi_prd_n ⟨by omega, by omega, by omega, by omega, by omega, by omega, trivial⟩, if_neg (by omega), if_pos q]
theorem vi_prd_in (q1 : 100 ≤ y) (q2 : y < 100 + ((vn_kl u : Nat) : Int)) : vi_prd S st tn u p y = vx_by u (vn_kl u - 1 - (y - 100).toNat) := by
  rw [vi_prd_n ⟨by omega, by omega, by omega, by omega, by omega, by omega, trivial⟩, if_neg (by omega), if_neg (by omega)]
theorem vc_138 (hT : vx_T 1 625 h) (C : vu_cg h pi Pd n RR) (hx : vx_rI x) : vx_CI d 138 [.ref pi, .int (vx_i x)] h (fun r h1 => h1 = h ∧ r = (vr_n (fun r => decide ((RR r).1 = x)) n : Nat)) := by
  have opi := C.1.1
  have n30 := C.2.2.1
  have LOOP : ∀ (m j : Nat) (z v : Int), m = n - j → j ≤ n → z = j → v = (vr_n (fun r => decide ((RR r).1 = x)) j : Nat) → vx_W d 138 4 [some (.ref pi), some (.int (vx_i x)), some (.int (vx_i v)), some (.int (vx_i z))] [] h (vx_RI (fun r h1 => h1 = h ∧ r = (vr_n (fun r => decide ((RR r).1 = x)) n : Nat))) := by
    intro m
    induction m with
    | zero =>
      intro j z v hm hj hz hv
      have le := vr_n_le (fun r => decide ((RR r).1 = x)) j
      have ej : j = n := by omega
      subst ej
      refine vg_138_4 opi hT ?_
      rw [C.2.1]
      exact ⟨by omega, fun _ => ⟨by omega, rfl, hv⟩, fun q => absurd q (by omega)⟩
    | succ m ih =>
      intro j z v hm hj hz hv
      have le := vr_n_le (fun r => decide ((RR r).1 = x)) j
      have es : vr_n (fun r => decide ((RR r).1 = x)) (j + 1) = vr_n (fun r => decide ((RR r).1 = x)) j + (bif decide ((RR j).1 = x) then 1 else 0) := rfl
      refine vg_138_4 opi hT ?_
      rw [C.2.1, show z.toNat = j by omega, vx_ru opi (by omega), (C.2.2.2 j (by omega)).1]
      refine ⟨by omega, fun q => absurd q (by omega), fun _ => ⟨by omega, hx, fun q => ih (j + 1) (z + 1) v (by omega) (by omega) (by omega) ?_, fun q => ih (j + 1) (z + 1) (v + 1) (by omega) (by omega) (by omega) ?_⟩⟩
      · rw [es, decide_eq_false q]
        show v = ((vr_n (fun r => decide ((RR r).1 = x)) j + 0 : Nat) : Int)
        omega
      · rw [es, decide_eq_true q]
        show v + 1 = ((vr_n (fun r => decide ((RR r).1 = x)) j + 1 : Nat) : Int)
        omega
  exact vg_138 opi hT (LOOP n 0 0 0 rfl (by omega) rfl rfl)
/-- how many rows a predicate has: the class -/
theorem vc_13 (hT : vx_T 1 625 h) (p1 : ve_R h 1 3 = some pi) (C : vy_cp h pi Pd) (hx : x = p) (hp : p < Pd.1) (t1 : vx_J h 1 8 = 1 → vx_J h 30 p = tn) (t0 : vx_J h 1 8 ≠ 1 → tn = 0) : vx_CI d 13 [.ref 1, .int (vx_i x)] h (fun r h1 => h1 = h ∧ r = tn) := by
  have p16 := C.2.2.1
  refine vg_13 hT ⟨by omega, fun q => absurd q (by omega), fun _ => ⟨pi, p1, C.1, ?_⟩⟩
  rw [C.2.1, show x.toNat = p by omega]
  exact ⟨fun q => absurd q (by omega), fun _ => ⟨fun q => ⟨by omega, rfl, t1 q⟩, fun q => ⟨rfl, (t0 q).symm⟩⟩⟩
theorem vc_13n (hT : vx_T 1 625 h) (p1 : ve_R h 1 3 = some pi) (C : vy_cp h pi Pd) (hx : vx_rI x) (hn : x < 0 ∨ (Pd.1 : Int) ≤ x) : vx_CI d 13 [.ref 1, .int (vx_i x)] h (fun r h1 => h1 = h ∧ r = 0) := by
  refine vg_13 hT ⟨hx, fun q => ⟨rfl, rfl⟩, fun q => ⟨pi, p1, C.1, ?_⟩⟩
  rw [C.2.1]
  exact ⟨fun q => ⟨rfl, rfl⟩, fun q2 => by omega⟩
/-- predicate: the class -/
theorem vc_9 (hT : vx_T 1 625 h) (P : vi_P h pi sd S S' st) (hu : vt_vs u) (eu : S.1.2.1 p = 72057594037927936 + vt_lf u) (nz : vt_nz (S.1.2.1 p)) (hp : p < S.1.1) (hx : x = p) (hy : vx_rI y) (t1 : vx_J h 1 8 = 1 → vx_J h 30 p = tn) (t0 : vx_J h 1 8 ≠ 1 → tn = 0) : vx_CI (d + 2) 9 [.ref 1, .int (vx_i x), .int (vx_i y)] h (fun r h1 => h1 = h ∧ r = vi_prd S st tn u p y) := by
  obtain ⟨p1, p2, p3, p4, -⟩ := P
  have C := p2.1
  have opi := C.1
  have p16 := C.2.2.1
  have ppo := vx_po opi
  have c1 := C.2.2.2 p hp
  have c2 := p3 p (by omega)
  have fK := vu_fK opi
  have lr := vt_lf_r hu
  have rl : vx_rL (S.1.2.1 p) := by omega
  have kr := (vn_kl_r hu).2
  have kb := vn_kl_b hu eu
  subst hx
  refine vg_9 (d := d + 1) hT ⟨by omega, fun q => absurd q (by omega), fun _ => ⟨pi, p1, opi, ?_⟩⟩
  rw [C.2.1, show ((p : Nat) : Int).toNat = p by omega, c1.1, c1.2.1, ppo.2.2.1, c2, ppo.2.2.2.2.2.1]
  refine ⟨fun _ => ⟨hy, fun q => ⟨by omega, rfl, by rw [q]; rfl⟩, fun q => ⟨by omega, rfl, by rw [q]; rfl⟩, fun q => vx_CI_mono (vc_138 hT p2 (by omega)) ?_, fun q => vx_CI_mono (vc_177 hT fK.1 p4 (by omega)) ?_, fun q => vx_CI_mono (vc_13 hT p1 C rfl hp t1 t0) ?_, fun q => ⟨by omega, vx_CI_mono (vc_15 (d := d) hT rl) ?_⟩, fun q => ⟨fun q2 => ⟨by omega, ?_⟩, fun q2 => ⟨rfl, (vi_prd_lo q q2).symm⟩⟩⟩, fun q => absurd q (by omega)⟩
  · rintro r h1 _ ⟨E, e⟩ _
    exact ⟨E, by rw [e, q]; rfl⟩
  · rintro r h1 _ ⟨E, e⟩ _
    exact ⟨E, by rw [e, q]; rfl⟩
  · rintro r h1 _ ⟨E, e⟩ _
    exact ⟨E, by rw [e, q]; rfl⟩
  · rintro r h1 _ ⟨E, L, e3, L6, al, nz'⟩ _
    have eL := vn_kl_u kr L6 al nz' kb.1 kb.2
    exact ⟨E, by rw [e3, q, eL]; rfl⟩
  · by_cases q3 : y < 106
    · refine vx_CI_mono (vc_16 (i := (y - 100).toNat) hT rl (by omega) (by omega)) ?_
      rintro r h1 _ ⟨E, c⟩ _
      refine ⟨E, ?_⟩
      by_cases q4 : y < 100 + ((vn_kl u : Nat) : Int)
      · have a := vn_kl_nz hu eu nz (i := (y - 100).toNat) (by omega)
        rw [vi_prd_in q2 q4, ← vn_kl_by hu eu (i := (y - 100).toNat) (by omega)]
        rcases c with ⟨_, t⟩ | ⟨t, _⟩
        · exact t
        · exact absurd t a
      · rw [vi_prd_hi (by omega)]
        have z := kb.2 (5 - (y - 100).toNat) (by omega)
        rcases c with ⟨t, _⟩ | ⟨_, t⟩
        · exact absurd z t
        · exact t
    · refine vx_CI_mono (vc_16n hT (by omega) (Or.inr (by omega))) ?_
      rintro r h1 _ ⟨E, e⟩ _
      exact ⟨E, by rw [vi_prd_hi (by omega)]; exact e⟩
theorem vc_99_154 {P : Int → ve_H → Prop} {v2 v4 v6 : Int} (hT : vx_T 625 672 h) (C : vn_pc h sd S st) (n30 : S.2.2.1 ≤ 30) (hx : vx_rI x) (K : P (vr_n (fun r => decide ((S.2.2.2.1 r).1 = x)) S.2.2.1 : Nat) h) :
    ∀ (m j : Nat) (z v : Int), m = S.2.2.1 - j → j ≤ S.2.2.1 → z = 30 * sd + j → v = (vr_n (fun r => decide ((S.2.2.2.1 r).1 = x)) j : Nat) → vx_W (d + 1) 99 154 [some (.ref 625), some (.int (vx_i x)), some (.int (vx_i v2)), some (.int (vx_i v)), some (.long (vx_l v4)), none, some (.int (vx_i v6)), some (.int (vx_i z))] [] h (vx_RI P) := by
  have sd2 := C.1.1.1
  intro m
  induction m with
  | zero =>
    intro j z v hm hj hz hv
    have le := vr_n_le (fun r => decide ((S.2.2.2.1 r).1 = x)) j
    have ej : j = S.2.2.1 := by omega
    refine vg_99_154 hT ?_
    rw [C.1.2, show ((sd : Nat) : Int).toNat = sd by omega, C.2.1]
    refine ⟨by omega, by omega, by omega, fun _ => ⟨by omega, ?_⟩, fun q => absurd q (by omega)⟩
    rw [hv, ej]; exact K
  | succ m ih =>
    intro j z v hm hj hz hv
    have le := vr_n_le (fun r => decide ((S.2.2.2.1 r).1 = x)) j
    have es : vr_n (fun r => decide ((S.2.2.2.1 r).1 = x)) (j + 1) = vr_n (fun r => decide ((S.2.2.2.1 r).1 = x)) j + (bif decide ((S.2.2.2.1 j).1 = x) then 1 else 0) := rfl
    refine vg_99_154 hT ?_
    rw [C.1.2, show ((sd : Nat) : Int).toNat = sd by omega, C.2.1, show z.toNat = 30 * sd + j by omega, (C.2.2.1 j (by omega)).2.2.2.2.1]
    refine ⟨by omega, by omega, by omega, fun q => absurd q (by omega), fun _ => ⟨by omega, hx, fun q => ih (j + 1) (z + 1) (v + 0) (by omega) (by omega) (by omega) ?_, fun q => ih (j + 1) (z + 1) (v + 1) (by omega) (by omega) (by omega) ?_⟩⟩
    · rw [es, decide_eq_false q]
      show v + 0 = ((vr_n (fun r => decide ((S.2.2.2.1 r).1 = x)) j + 0 : Nat) : Int)
      omega
    · rw [es, decide_eq_true q]
      show v + 1 = ((vr_n (fun r => decide ((S.2.2.2.1 r).1 = x)) j + 1 : Nat) : Int)
      omega
theorem vc_99_213 {P : Int → ve_H → Prop} {v2 v4 v6 : Int} (hT : vx_T 625 672 h) (C : vn_pc h sd S st) (hx : vx_rI x) (K : P (vr_n (fun i => decide (S.2.2.2.2.2 i 0 = x)) S.2.2.2.2.1 : Nat) h) :
    ∀ (m j : Nat) (z v : Int), m = S.2.2.2.2.1 - j → j ≤ S.2.2.2.2.1 → z = 400 * sd + j → v = (vr_n (fun i => decide (S.2.2.2.2.2 i 0 = x)) j : Nat) → vx_W (d + 1) 99 213 [some (.ref 625), some (.int (vx_i x)), some (.int (vx_i v2)), some (.int (vx_i v)), some (.long (vx_l v4)), none, some (.int (vx_i v6)), some (.int (vx_i z))] [] h (vx_RI P) := by
  have sd2 := C.1.1.1
  obtain ⟨f1, f2, f3, -⟩ := C.2.2.2.2
  intro m
  induction m with
  | zero =>
    intro j z v hm hj hz hv
    have le := vr_n_le (fun i => decide (S.2.2.2.2.2 i 0 = x)) j
    have ej : j = S.2.2.2.2.1 := by omega
    refine vg_99_213 hT ?_
    rw [C.1.2, show ((sd : Nat) : Int).toNat = sd by omega, f1]
    refine ⟨by omega, by omega, by omega, fun _ => ⟨by omega, ?_⟩, fun q => absurd q (by omega)⟩
    rw [hv, ej]; exact K
  | succ m ih =>
    intro j z v hm hj hz hv
    have le := vr_n_le (fun i => decide (S.2.2.2.2.2 i 0 = x)) j
    have es : vr_n (fun i => decide (S.2.2.2.2.2 i 0 = x)) (j + 1) = vr_n (fun i => decide (S.2.2.2.2.2 i 0 = x)) j + (bif decide (S.2.2.2.2.2 j 0 = x) then 1 else 0) := rfl
    have e0 : vx_J h 648 (400 * sd + j) = S.2.2.2.2.2 j 0 := by
      obtain ⟨p, m, -, -, -, a, b, -⟩ := f3 j (by omega)
      rw [a, b]
    refine vg_99_213 hT ?_
    rw [C.1.2, show ((sd : Nat) : Int).toNat = sd by omega, f1, show z.toNat = 400 * sd + j by omega, e0]
    refine ⟨by omega, by omega, by omega, fun q => absurd q (by omega), fun _ => ⟨by omega, hx, fun q => ih (j + 1) (z + 1) (v + 0) (by omega) (by omega) (by omega) ?_, fun q => ih (j + 1) (z + 1) (v + 1) (by omega) (by omega) (by omega) ?_⟩⟩
    · rw [es, decide_eq_false q]
      show v + 0 = ((vr_n (fun i => decide (S.2.2.2.2.2 i 0 = x)) j + 0 : Nat) : Int)
      omega
    · rw [es, decide_eq_true q]
      show v + 1 = ((vr_n (fun i => decide (S.2.2.2.2.2 i 0 = x)) j + 1 : Nat) : Int)
      omega
/-- facts of a predicate, in two orders -/
theorem vi_E_n (E : vi_E S S') (dj : ∀ i j, i < S.2.2.2.2.1 → j < S.2.2.2.2.1 → vr_eq 5 (S.2.2.2.2.2 i) (S.2.2.2.2.2 j) → i = j) : vr_n (fun i => decide (S.2.2.2.2.2 i 0 = x)) S.2.2.2.2.1 = vr_n (fun i => decide (S'.2.2.2.2.2 i 0 = x)) S'.2.2.2.2.1 := by
  refine vr_n_fst (w := 5) (by decide) E.2.2.2.1 dj (fun i hi => ?_)
  obtain ⟨j, j1, j2⟩ := (E.2.2.2.2 (S.2.2.2.2.2 i)).mp ⟨i, hi, fun _ _ => rfl⟩
  exact ⟨j, j1, vr_eq_symm j2⟩
/-- predicate: the reference -/
theorem vc_99 (T : vx_TL L xs h) (p8 : vn_pc h sd S' st) (E : vi_E S S') (dj : ∀ i j, i < S.2.2.2.2.1 → j < S.2.2.2.2.1 → vr_eq 5 (S.2.2.2.2.2 i) (S.2.2.2.2.2 j) → i = j) (n30 : S.2.2.1 ≤ 30) (hp : p < S.1.1) (hx : x = p) (hy : vx_rI y) (t1 : vx_J h 625 31 = 1 → ∃ cnt' rr' cm', vn_T h S.1 cnt' rr' cm' ∧ cnt' ≤ 200 ∧ tn = (vr_n (fun i => decide (rr' i 0 = (p : Int))) cnt' : Nat)) (t0 : vx_J h 625 31 ≠ 1 → tn = 0) (K : ∀ h2, vx_TL L xs h2 → vx_fq (fun a k => a = 672 ∨ (a = 625 ∧ k = 0)) h h2 → I' h2) : vx_CI (d + 1) 99 [.ref 625, .int (vx_i x), .int (vx_i y)] h (fun r2 h2 => vx_TL L xs h2 → vi_prd S st tn (vx_K h 632 (16 * sd + p)) p y = r2 ∧ I' h2) := by
  have sd2 := p8.1.1.1
  have hp' : p < S'.1.1 := by rw [E.1]; exact hp
  have c := p8.1.1.2.2.2 p hp'
  have p16 := p8.1.1.2.2.1
  obtain ⟨u, eu⟩ : ∃ u, vx_K h 632 (16 * sd + p) = u := ⟨_, rfl⟩
  rw [eu] at c ⊢
  have hu := c.1
  have kr := (vn_kl_r hu).2
  subst hx
  refine vg_99 (vx_TLT T) (fun g1 e1 T1 => ?_)
  have F1 : vx_fr (fun a k => a = 672 ∨ (a = 625 ∧ k = 0)) h g1 := vx_fr_sJ vx_fr_refl e1 (Or.inr ⟨rfl, rfl⟩)
  have C1 := vn_pc_fr p8 F1 (fun a k q => by omega)
  have fin : ∀ z : Int, vi_prd S st tn u p y = z → vx_TL L xs g1 → vi_prd S st tn u p y = z ∧ I' g1 := fun z e T2 => ⟨e, K g1 T2 (vx_fq_fr F1)⟩
  have k31 : vx_J g1 625 31 = vx_J h 625 31 := vx_fr_J F1 (by omega)
  have k632 : vx_K g1 632 (16 * sd + p) = u := by rw [vx_fr_K F1 (by omega)]; exact eu
  have sdr : (0 : Int) ≤ (sd : Int) ∧ (sd : Int) < 2 := by omega
  rw [C1.1.2, show ((sd : Nat) : Int).toNat = sd by omega, C1.1.1.2.1, show (16 * ((sd : Nat) : Int) + ((p : Nat) : Int)).toNat = 16 * sd + p by omega, k632]
  refine ⟨by omega, fun q => absurd q (by omega), fun _ => ⟨sdr, fun _ => ⟨by omega, vx_CI_mono (vc_98 T1 hu) ?_⟩, fun q => absurd q (by omega)⟩⟩
  rintro r7 h7 _ ⟨E7, e7⟩ _
  rw [E7, e7, C1.1.2, show (16 * ((sd : Nat) : Int) + ((p : Nat) : Int)).toNat = 16 * sd + p by omega, C1.2.2.2.1 p (by omega)]
  refine ⟨hy, fun q => ⟨fun q0 => vx_CI_mono (vc_83 T1 C1.1 hp' rfl) ?_, fun q1 => ⟨by omega, fin _ (by rw [q1]; rfl)⟩, fun q2 => vc_99_154 T1 C1 (by rw [E.2.1]; exact n30) (by omega) (fin _ ?_) S'.2.2.1 0 _ 0 rfl (by omega) (by omega) rfl, fun q3 => vc_99_213 T1 C1 (by omega) (fin _ ?_) S'.2.2.2.2.1 0 _ 0 rfl (by omega) (by omega) rfl, fun q4 => ?_, fun q5 => fin _ (by rw [q5]; rfl), fun qd => fin _ (vi_prd_lo qd q)⟩, fun q => ⟨by omega, fun q2 => ⟨fun t => absurd t (by omega), fun t => absurd t (by omega), fun t => absurd t (by omega), fun t => absurd t (by omega), fun t => absurd t (by omega), fun t => absurd t (by omega), fun _ => fin _ (vi_prd_hi q2)⟩, fun q2 => ?_⟩⟩
  · rintro r h8 _ ⟨E8, e8⟩ _
    rw [E8]
    refine fin _ ?_
    rw [e8, q0, E.1]; rfl
  · rw [q2, E.2.1, E.2.2.1]; rfl
  · rw [q3, ← vi_E_n E dj]; rfl
  · by_cases s1 : vx_J h 625 31 = 1
    · obtain ⟨cnt', rr', cm', a1, a2, a3⟩ := t1 s1
      refine vx_CI_mono (vc_96 T1 (k31.trans s1) (vn_T_fr a1 F1 (fun a k q => by omega)) a2 (by omega)) ?_
      rintro r h8 _ ⟨E8, e8⟩ _
      rw [E8]
      refine fin _ ?_
      rw [e8, q4]; exact a3
    · refine vx_CI_mono (vc_96n T1 (by rw [k31]; exact s1) (by omega)) ?_
      rintro r h8 _ ⟨E8, e8⟩ _
      rw [E8]
      refine fin _ ?_
      rw [e8, q4]; exact t0 s1
  · have ul : vx_rL u := by have := hu.2.1; have := hu.1; omega
    rw [vx_by_l ul (by omega), show ((((vn_kl u : Nat) : Int) - 1 - y) + 100).toNat = vn_kl u - 1 - (y - 100).toNat by omega]
    have br := vx_by_r u (vn_kl u - 1 - (y - 100).toNat)
    exact ⟨by omega, fin _ (vi_prd_in q q2)⟩
theorem vp_8 (hT : vx_TL L xs h) (s : vi_S h) (P : vi_P h pi sd S S' st) (NZ : vu_nz S.1) (M : vx_J h 1 8 = 1 → vi_M h S st) (hx : vx_rI x) (hy : vx_rI y) (K : ∀ h2, vx_TL L xs h2 → vx_fq (fun a k => a = 672 ∨ (a = 625 ∧ k = 0)) h h2 → I' h2) : vl_I (d + 2) L xs I' 9 99 [.int (vx_i x), .int (vx_i y)] h := by
  have P' := P
  obtain ⟨p1, p2, p3, p4, p5, p6, p7, p8, p9⟩ := P'
  have opi := p2.1.1
  have p16 := p2.1.2.2.1
  by_cases out : x < 0 ∨ (S.1.1 : Int) ≤ x
  · have REF : vx_TL L xs h → vx_CI (d + 2) 99 [.ref 625, .int (vx_i x), .int (vx_i y)] h (fun r2 h2 => vx_TL L xs h2 → -1 = r2 ∧ I' h2) := by
      intro T
      have sd2 := p8.1.1.1
      refine vg_99 (d := d + 1) (vx_TLT T) (fun g1 e1 T1 => ?_)
      have F1 : vx_fr (fun a k => a = 672 ∨ (a = 625 ∧ k = 0)) h g1 := vx_fr_sJ vx_fr_refl e1 (Or.inr ⟨rfl, rfl⟩)
      have C1 := vn_pc_fr p8 F1 (fun a k q => by omega)
      have e631 : vx_J g1 631 sd = S.1.1 := by rw [C1.1.1.2.1, p9.1]
      rw [C1.1.2, show ((sd : Nat) : Int).toNat = sd by omega, e631]
      exact ⟨hx, fun q T2 => ⟨rfl, K g1 T2 (vx_fq_fr F1)⟩, fun q => ⟨by omega, fun q2 => absurd q2 (by omega), fun q2 T2 => ⟨rfl, K g1 T2 (vx_fq_fr F1)⟩⟩⟩
    refine vg_9 (d := d + 1) (vx_TLC hT) ⟨hx, fun q => REF, fun q => ⟨pi, p1, opi, ?_⟩⟩
    rw [p2.1.2.1]
    exact ⟨fun q2 => absurd q2 (by omega), fun q2 => REF⟩
  · obtain ⟨p, hp⟩ : ∃ p : Nat, x = p := ⟨x.toNat, by omega⟩
    have pl : p < S.1.1 := by omega
    have pl' : p < S'.1.1 := by rw [p9.1]; exact pl
    have c := p8.1.1.2.2.2 p pl'
    rw [p9.1] at c
    have T : ∃ tn : Int, (vx_J h 1 8 = 1 → vx_J h 30 p = tn) ∧ (vx_J h 1 8 ≠ 1 → tn = 0) ∧ (vx_J h 625 31 = 1 → ∃ cnt' rr' cm', vn_T h S.1 cnt' rr' cm' ∧ cnt' ≤ 200 ∧ tn = (vr_n (fun i => decide (rr' i 0 = (p : Int))) cnt' : Nat)) := by
      by_cases s1 : vx_J h 1 8 = 1
      · obtain ⟨cnt, rr, cm, o, cnt', rr', cm', m0, m2, m3, m4, m5, m6, m7, m8⟩ := M s1
        have m1 := m0.resolve_right (fun t => by have := t.1; omega)
        have ag := vm_agree m3 m1.1.2.2.2.2.2 m8 m6.2.2
        refine ⟨_, fun _ => rfl, fun t => absurd s1 t, fun _ => ⟨cnt', rr', cm', m6, m7, ?_⟩⟩
        rw [(m1.2.2 p (by omega)).2, vm_cl_n]
        rw [vr_n_fst (w := 5) (rr2 := rr') (by decide) ag.1.symm m1.1.2.2.2.2.2 (fun i hi => by
          obtain ⟨j, j1, j2, _⟩ := ag.2 i hi
          exact ⟨j, j1, j2⟩)]
      · exact ⟨0, fun t => absurd t s1, fun _ => rfl, fun t => absurd (s.2.1.symm.trans t) s1⟩
    obtain ⟨tn, t1, t0, t2⟩ := T
    refine vx_CI_mono (vc_9 (d := d) (vx_TLC hT) P c.1 c.2.1 (NZ p pl) pl hp hy t1 t0) ?_
    rintro r h1 _ ⟨E1, e1⟩ T1
    rw [E1] at T1 ⊢
    rw [e1]
    exact vc_99 (d := d + 1) T1 p8 p9 p4.2.2.2.2.2 p2.2.2.1 pl hp hy t2 (fun t => t0 (by rw [← s.2.1]; exact t)) K
end
