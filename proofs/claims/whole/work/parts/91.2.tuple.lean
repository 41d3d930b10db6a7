/-! tuple, round: places among the rows of a predicate -/
theorem vr_n_or {p q r : Nat → Bool} : ∀ n, (∀ i, i < n → ¬ (p i = true ∧ q i = true)) → (∀ i, i < n → r i = (p i || q i)) → vr_n r n = vr_n p n + vr_n q n
  | 0, _, _ => rfl
  | n + 1, h1, h2 => by
    show vr_n r n + (bif r n then 1 else 0) = vr_n p n + (bif p n then 1 else 0) + (vr_n q n + (bif q n then 1 else 0))
    have a := h1 n (by omega)
    rw [vr_n_or n (fun i hi => h1 i (by omega)) (fun i hi => h2 i (by omega)), h2 n (by omega)]
    cases hp : p n with
    | true =>
      cases hq : q n with
      | true => exact absurd ⟨hp, hq⟩ a
      | false => show _ + 1 = _ + 1 + (_ + 0); omega
    | false =>
      cases hq : q n with
      | true => show _ + 1 = _ + 0 + (_ + 1); omega
      | false => show _ + 0 = _ + 0 + (_ + 0); omega
/-- how many rows of predicate x are ahead of row t -/
noncomputable def vn_ap (cnt : Nat) (rr : Nat → Nat → Int) (x : Int) (t : Nat) : Nat := vr_n (fun u => decide (rr u 0 = x) && @decide (vr_lt 5 (rr u) (rr t)) (Classical.propDecidable _)) cnt
def vn_sm (cnt : Nat) (rr : Nat → Nat → Int) (x : Int) : Nat := vr_n (fun u => decide (rr u 0 < x)) cnt
def vn_of (cnt : Nat) (rr : Nat → Nat → Int) (x : Int) : Nat := vr_n (fun u => decide (rr u 0 = x)) cnt
section
variable {cnt cnt' t t' : Nat} {rr rr' : Nat → Nat → Int} {o : Nat → Nat} {x y : Int}
theorem vx_and_t {a b : Bool} (h : (a && b) = true) : a = true ∧ b = true := by
  cases a with
  | true => exact ⟨rfl, h⟩
  | false => exact absurd (show false = true from h) (by decide)
theorem vn_sm_s : vn_sm cnt rr (x + 1) = vn_sm cnt rr x + vn_of cnt rr x := by
  unfold vn_sm vn_of
  refine vr_n_or cnt (fun i _ q => ?_) (fun i _ => ?_)
  · have a := of_decide_eq_true q.1
    have b := of_decide_eq_true q.2
    omega
  · by_cases q : rr i 0 < x
    · rw [decide_eq_true q, decide_eq_true (show rr i 0 < x + 1 by omega)]; rfl
    · by_cases q2 : rr i 0 = x
      · rw [decide_eq_true q2, decide_eq_true (show rr i 0 < x + 1 by omega), Bool.or_true]
      · rw [decide_eq_false q, decide_eq_false q2, decide_eq_false (show ¬ rr i 0 < x + 1 by omega)]; rfl
theorem vn_sm_mono (h : x ≤ y) : vn_sm cnt rr x ≤ vn_sm cnt rr y := vr_n_mono cnt (fun i _ q => decide_eq_true (by
  have := of_decide_eq_true q
  omega))
theorem vn_sm_le : vn_sm cnt rr x ≤ cnt := vr_n_le _ _
theorem vn_ap_ah (e : rr t 0 = x) : vn_ah 5 cnt rr t = vn_sm cnt rr x + vn_ap cnt rr x t := by
  unfold vn_ah vn_sm vn_ap
  refine vr_n_or cnt (fun i _ q => ?_) (fun i _ => ?_)
  · have a := of_decide_eq_true q.1
    have b := of_decide_eq_true (vx_and_t q.2).1
    omega
  · by_cases q : rr i 0 < x
    · rw [decide_eq_true q, (@decide_eq_true_iff _ (Classical.propDecidable _)).mpr (show vr_lt 5 (rr i) (rr t) from ⟨0, by decide, fun j hj => absurd hj (by omega), by rw [e]; exact q⟩)]
      rfl
    · rw [decide_eq_false q, Bool.false_or]
      by_cases q2 : rr i 0 = x
      · rw [decide_eq_true q2, Bool.true_and]
      · rw [decide_eq_false q2, Bool.false_and]
        refine (@decide_eq_false_iff_not _ (Classical.propDecidable _)).mpr ?_
        rintro ⟨k, k1, k2, k3⟩
        by_cases k0 : k = 0
        · rw [k0, e] at k3; exact q k3
        · exact q2 ((k2 0 (by omega)).trans e)
theorem vn_ap_lt (h : t < cnt) (e : rr t 0 = x) : vn_ap cnt rr x t < vn_of cnt rr x := by
  unfold vn_ap vn_of
  refine vr_n_strict cnt (fun i _ q => (vx_and_t q).1) ⟨t, h, ?_, decide_eq_true e⟩
  rw [(@decide_eq_false_iff_not _ (Classical.propDecidable _)).mpr (fun q => vr_lt_irr q (fun _ _ => rfl)), Bool.and_false]
theorem vn_ap_inj (dj : ∀ i j, i < cnt → j < cnt → vr_eq 5 (rr i) (rr j) → i = j) (h : t < cnt) (h' : t' < cnt) (e : rr t 0 = x) (e' : rr t' 0 = x) (q : vn_ap cnt rr x t = vn_ap cnt rr x t') : t = t' :=
  vn_ah_inj dj h h' (by rw [vn_ap_ah e, vn_ap_ah e', q])
theorem vi_pl {w : Nat} (so : vr_so w rr o cnt) (ag : ∀ i, i < cnt' → ∃ k, k < cnt ∧ vr_eq w (rr' i) (rr k)) : ∀ i, i < cnt' → ∃ j, j < cnt ∧ vr_eq w (rr' i) (rr (o j)) := fun i hi => by
  obtain ⟨k, k1, k2⟩ := ag i hi
  obtain ⟨j, j1, j2⟩ := vz_pig cnt o so.1 (fun a b ha hb e => vr_so_ie so a b ha hb (by rw [e]; exact fun _ _ => rfl)) k k1
  exact ⟨j, j1, by rw [j2]; exact k2⟩
/-- the row at a place among those of a predicate -/
theorem vn_tup (so : vr_so 5 rr o cnt) (hac : cnt' = cnt) (dj : ∀ i j, i < cnt' → j < cnt' → vr_eq 5 (rr' i) (rr' j) → i = j) (A : ∀ i, i < cnt' → ∃ j, j < cnt ∧ vr_eq 5 (rr' i) (rr (o j))) {i : Nat} (hi : i < vn_of cnt' rr' x) : vn_sm cnt' rr' x + i < cnt ∧ ∃ t, t < cnt' ∧ rr' t 0 = x ∧ vn_ap cnt' rr' x t = i ∧ vr_eq 5 (rr' t) (rr (o (vn_sm cnt' rr' x + i))) := by
  have s1 := vn_sm_s (cnt := cnt') (rr := rr') (x := x)
  have s2 := vn_sm_le (cnt := cnt') (rr := rr') (x := x + 1)
  have lt : vn_sm cnt' rr' x + i < cnt := by omega
  obtain ⟨t, t1, t2, t3⟩ := vn_ah_so so hac dj A _ lt
  refine ⟨lt, t, t1, ?_⟩
  obtain ⟨q, eq⟩ : ∃ q, rr' t 0 = q := ⟨_, rfl⟩
  have a1 := vn_ap_ah (cnt := cnt') eq
  have a2 := vn_ap_lt t1 eq
  have s3 := vn_sm_s (cnt := cnt') (rr := rr') (x := q)
  have e : q = x := by
    by_cases c1 : q < x
    · have := vn_sm_mono (cnt := cnt') (rr := rr') (x := q + 1) (y := x) (by omega)
      omega
    · by_cases c2 : x < q
      · have := vn_sm_mono (cnt := cnt') (rr := rr') (x := x + 1) (y := q) (by omega)
        omega
      · omega
  rw [e] at a1 eq
  exact ⟨eq, by omega, t2⟩
theorem vn_of_eq (hn : cnt' = cnt) (dj : ∀ i j, i < cnt → j < cnt → vr_eq 5 (rr i) (rr j) → i = j) (A : ∀ i, i < cnt → ∃ j, j < cnt' ∧ vr_eq 5 (rr i) (rr' j)) : vn_of cnt rr x = vn_of cnt' rr' x := vr_n_fst (by decide) hn dj A
theorem vn_sm_eq (hn : cnt' = cnt) (dj : ∀ i j, i < cnt → j < cnt → vr_eq 5 (rr i) (rr j) → i = j) (A : ∀ i, i < cnt → ∃ j, j < cnt' ∧ vr_eq 5 (rr i) (rr' j)) : vn_sm cnt rr x = vn_sm cnt' rr' x :=
  vr_n_rows hn dj A (fun i j _ _ e => by rw [e 0 (by decide)])
end
section
variable {d cnt t u p sd : Nat} {h : ve_H} {Pd : vy_V} {rr : Nat → Nat → Int} {cm : Nat → Int} {x y z : Int}
/-- where the rows of a predicate begin: the class -/
theorem vc_133 (hT : vx_T 1 625 h) (M : vm_M h cnt rr cm) (V : ∀ i, i < cnt → vm_vr (rr i)) (hx : x = p) (hp : p ≤ 16) : vx_CI d 133 [.ref 22, .int (vx_i x)] h (fun r h1 => h1 = h ∧ r = (vn_sm cnt rr x : Nat)) := by
  have c201 := M.1.2.2.1
  have LOOP : ∀ (m j : Nat) (w v : Int), m = p - j → j ≤ p → w = j → v = (vn_sm cnt rr (j : Int) : Nat) → vx_W d 133 4 [some (.ref 22), some (.int (vx_i x)), some (.int (vx_i v)), some (.int (vx_i w))] [] h (vx_RI (fun r h1 => h1 = h ∧ r = (vn_sm cnt rr x : Nat))) := by
    intro m
    induction m with
    | zero =>
      intro j w v hm hj hw hv
      have le := vn_sm_le (cnt := cnt) (rr := rr) (x := (j : Int))
      have ej : (j : Int) = x := by omega
      refine vg_133_4 hT ⟨by omega, by omega, fun _ => ⟨by omega, rfl, ?_⟩, fun q => absurd q (by omega)⟩
      rw [hv, ej]
    | succ m ih =>
      intro j w v hm hj hw hv
      have le := vn_sm_le (cnt := cnt) (rr := rr) (x := (j : Int))
      have e30 : vx_J h 30 w.toNat = (vn_of cnt rr (j : Int) : Nat) := by
        rw [show w.toNat = j by omega, (M.2.2 j (by omega)).2, vm_cl_n]; rfl
      have s := vn_sm_s (cnt := cnt) (rr := rr) (x := (j : Int))
      refine vg_133_4 hT ⟨by omega, by omega, fun q => absurd q (by omega), fun _ => ⟨by omega, ?_⟩⟩
      rw [e30]
      refine ih (j + 1) (w + 1) _ (by omega) (by omega) (by omega) ?_
      rw [show ((j + 1 : Nat) : Int) = (j : Int) + 1 by omega, s]
      omega
  refine vg_133 hT (LOOP p 0 0 0 rfl (by omega) rfl ?_)
  have z0 : vn_sm cnt rr ((0 : Nat) : Int) = 0 := vr_n_zero cnt (fun i hi => decide_eq_false (by
    obtain ⟨⟨q, q1, _⟩, _⟩ := V i hi
    omega))
  rw [z0]; rfl
/-- which of two rows of a predicate is ahead: the reference -/
theorem vc_100 (hT : vx_T 625 672 h) (C : vn_cs h sd Pd) (T : vn_T h Pd cnt rr cm) (c200 : cnt ≤ 200) (ht : t < cnt) (hu : u < cnt) (e0 : rr t 0 = rr u 0) (hx : x = t) (hy : y = u) : vx_CI (d + 2) 100 [.ref 625, .int (vx_i x), .int (vx_i y)] h (fun r h1 => h1 = h ∧ ((r = 1 ∧ vr_lt 5 (rr t) (rr u)) ∨ (r = 0 ∧ ¬ vr_lt 5 (rr t) (rr u)))) := by
  obtain ⟨rt, ⟨p, n, a1, a2, a3, a4, a5⟩, _⟩ := T.2.1 t ht
  obtain ⟨ru, ⟨p2, n2, b1, b2, b3, b4, b5⟩, _⟩ := T.2.1 u hu
  have ep : p2 = p := by omega
  rw [ep] at b3
  have en : n2 = n := by omega
  rw [en] at b5
  have LOOP : ∀ (m v : Nat) (w : Int) (v4 : Option Value), m = n - v → v ≤ n → w = v → (∀ v', v' < v → rr t (v' + 1) = rr u (v' + 1)) → vx_W (d + 2) 100 2 [some (.ref 625), some (.int (vx_i x)), some (.int (vx_i y)), some (.int (vx_i w)), v4] [] h (vx_RI (fun r h1 => h1 = h ∧ ((r = 1 ∧ vr_lt 5 (rr t) (rr u)) ∨ (r = 0 ∧ ¬ vr_lt 5 (rr t) (rr u))))) := by
    intro m
    induction m with
    | zero =>
      intro v w v4 hm hv hw al
      refine vg_100_2 (d := d + 1) hT ⟨by omega, ?_⟩
      rw [show x.toNat = t by omega, rt.1]
      refine vx_CI_mono (vc_83 hT C a2 a1) ?_
      rintro r2 h2 _ ⟨rfl, e2⟩ _
      refine ⟨by omega, fun _ => ⟨rfl, Or.inr ⟨rfl, ?_⟩⟩, fun q => absurd q (by omega)⟩
      rintro ⟨k, k1, _, k3⟩
      by_cases k0 : k = 0
      · rw [k0] at k3; omega
      · by_cases kn : k - 1 < n
        · have := al (k - 1) (by omega)
          rw [show k - 1 + 1 = k by omega] at this
          omega
        · have x1 := a5 (k - 1) (by omega) (by omega)
          have x2 := b5 (k - 1) (by omega) (by omega)
          rw [show k - 1 + 1 = k by omega] at x1 x2
          omega
    | succ m ih =>
      intro v w v4 hm hv hw al
      refine vg_100_2 (d := d + 1) hT ⟨by omega, ?_⟩
      rw [show x.toNat = t by omega, rt.1]
      refine vx_CI_mono (vc_83 hT C a2 a1) ?_
      rintro r2 h2 _ ⟨rfl, e2⟩ _
      rw [show (4 * x + w).toNat = 4 * t + v by omega, show (4 * y + w).toNat = 4 * u + v by omega]
      refine ⟨by omega, fun q => absurd q (by omega), fun _ => ⟨by omega, by omega, vx_CI_mono (vc_67 (d := d) hT (rt.2 v (by omega)) (ru.2 v (by omega))) ?_⟩⟩
      rintro r5 h5 _ ⟨rfl, c5⟩ _
      have al' : ∀ j, j < v + 1 → rr t j = rr u j := fun j hj => by
        by_cases j0 : j = 0
        · rw [j0]; exact e0
        · have := al (j - 1) (by omega)
          rw [show j - 1 + 1 = j by omega] at this
          exact this
      refine ⟨fun q => ih (v + 1) (w + 1) _ (by omega) (by omega) (by omega) (fun v' h' => ?_), fun q => ⟨fun q2 => ⟨rfl, Or.inr ⟨rfl, ?_⟩⟩, fun q2 => ⟨rfl, Or.inl ⟨rfl, v + 1, by omega, al', by omega⟩⟩⟩⟩
      · by_cases e : v' = v
        · rw [e]; omega
        · exact al v' (by omega)
      · rintro ⟨k, k1, k2, k3⟩
        by_cases q3 : k < v + 1
        · have := al' k q3; omega
        · by_cases q4 : k = v + 1
          · rw [q4] at k3; omega
          · have := k2 (v + 1) (by omega); omega
  exact vg_100 (d := d + 1) hT (LOOP n 0 0 none rfl (by omega) rfl (fun v' h' => absurd h' (by omega)))
theorem vc_101_37 {P : Int → ve_H → Prop} {v3 : Int} (hT : vx_T 625 672 h) (C : vn_cs h sd Pd) (T : vn_T h Pd cnt rr cm) (c200 : cnt ≤ 200) (ht : t < cnt) (e0 : rr t 0 = x) (hv3 : v3 = t) (hx : vx_rI x) (hy : vx_rI y)
    (K1 : (vn_ap cnt rr x t : Int) ≠ y → ∀ v4 v5, vx_W (d + 3) 101 2 [some (.ref 625), some (.int (vx_i x)), some (.int (vx_i y)), some (.int (vx_i (v3 + 1))), v4, v5] [] h (vx_RI P)) (K2 : (vn_ap cnt rr x t : Int) = y → P v3 h) :
    ∀ (m j : Nat) (w v : Int), m = cnt - j → j ≤ cnt → w = j → v = (vn_ap j rr x t : Nat) → vx_W (d + 3) 101 37 [some (.ref 625), some (.int (vx_i x)), some (.int (vx_i y)), some (.int (vx_i v3)), some (.int (vx_i v)), some (.int (vx_i w))] [] h (vx_RI P) := by
  intro m
  induction m with
  | zero =>
    intro j w v hm hj hw hv
    have le : vn_ap j rr x t ≤ j := vr_n_le _ _
    have ej : j = cnt := by omega
    subst ej
    refine vg_101_37 (d := d + 2) hT ?_
    rw [T.1]
    refine ⟨by omega, fun _ => ⟨by omega, hy, fun q => ?_, fun q => ⟨by omega, K2 (hv.symm.trans q)⟩⟩, fun q => absurd q (by omega)⟩
    exact K1 (fun t => q (hv.trans t)) _ _
  | succ m ih =>
    intro j w v hm hj hw hv
    have le : vn_ap j rr x t ≤ j := vr_n_le _ _
    have es : vn_ap (j + 1) rr x t = vn_ap j rr x t + (bif (decide (rr j 0 = x) && @decide (vr_lt 5 (rr j) (rr t)) (Classical.propDecidable _)) then 1 else 0) := rfl
    refine vg_101_37 (d := d + 2) hT ?_
    rw [T.1, show w.toNat = j by omega, (T.2.1 j (by omega)).1.1]
    refine ⟨by omega, fun q => absurd q (by omega), fun _ => ⟨by omega, hx, fun q => ih (j + 1) (w + 1) (v + 0) (by omega) (by omega) (by omega) ?_, fun q => vx_CI_mono (vc_100 (d := d) hT C T c200 (t := j) (u := t) (by omega) ht (q.trans e0.symm) hw hv3) ?_⟩⟩
    · rw [es, decide_eq_false q, Bool.false_and]
      show v + 0 = ((vn_ap j rr x t + 0 : Nat) : Int)
      omega
    · rintro r10 h10 _ ⟨rfl, c10⟩ _
      refine ⟨fun q2 => ih (j + 1) (w + 1) (v + 0) (by omega) (by omega) (by omega) ?_, fun q2 => ih (j + 1) (w + 1) (v + 1) (by omega) (by omega) (by omega) ?_⟩
      · have no : ¬ vr_lt 5 (rr j) (rr t) := by
          rcases c10 with ⟨t, _⟩ | ⟨_, t⟩
          · omega
          · exact t
        rw [es, decide_eq_true q, (@decide_eq_false_iff_not _ (Classical.propDecidable _)).mpr no]
        show v + 0 = ((vn_ap j rr x t + 0 : Nat) : Int)
        omega
      · have yes : vr_lt 5 (rr j) (rr t) := by
          rcases c10 with ⟨_, t⟩ | ⟨t, _⟩
          · exact t
          · exact absurd t q2
        rw [es, decide_eq_true q, (@decide_eq_true_iff _ (Classical.propDecidable _)).mpr yes]
        show v + 1 = ((vn_ap j rr x t + 1 : Nat) : Int)
        omega
/-- the row at a place among those of a predicate: the reference -/
theorem vc_101 (hT : vx_T 625 672 h) (j31 : vx_J h 625 31 = 1) (C : vn_cs h sd Pd) (T : vn_T h Pd cnt rr cm) (c200 : cnt ≤ 200) (hx : vx_rI x) (hy : vx_rI y) : vx_CI (d + 3) 101 [.ref 625, .int (vx_i x), .int (vx_i y)] h (fun r h1 => h1 = h ∧ ((r = -1 ∧ ∀ t, t < cnt → rr t 0 = x → (vn_ap cnt rr x t : Int) ≠ y) ∨ ∃ t : Nat, t < cnt ∧ r = t ∧ rr t 0 = x ∧ (vn_ap cnt rr x t : Int) = y)) := by
  have LOOP : ∀ (m i : Nat) (w : Int) (v4 v5 : Option Value), m = cnt - i → i ≤ cnt → w = i → (∀ t, t < i → rr t 0 = x → (vn_ap cnt rr x t : Int) ≠ y) → vx_W (d + 3) 101 2 [some (.ref 625), some (.int (vx_i x)), some (.int (vx_i y)), some (.int (vx_i w)), v4, v5] [] h (vx_RI (fun r h1 => h1 = h ∧ ((r = -1 ∧ ∀ t, t < cnt → rr t 0 = x → (vn_ap cnt rr x t : Int) ≠ y) ∨ ∃ t : Nat, t < cnt ∧ r = t ∧ rr t 0 = x ∧ (vn_ap cnt rr x t : Int) = y))) := by
    intro m
    induction m with
    | zero =>
      intro i w v4 v5 hm hi hw al
      have ei : i = cnt := by omega
      refine vg_101_2 (d := d + 2) hT ?_
      rw [T.1]
      exact ⟨by omega, fun _ => ⟨rfl, Or.inl ⟨rfl, fun t ht => al t (by omega)⟩⟩, fun q => absurd q (by omega)⟩
    | succ m ih =>
      intro i w v4 v5 hm hi hw al
      refine vg_101_2 (d := d + 2) hT ?_
      rw [T.1, j31, show w.toNat = i by omega, (T.2.1 i (by omega)).1.1]
      refine ⟨by omega, fun q => absurd q (by omega), fun _ => ⟨fun q => absurd rfl q, fun _ => ⟨by omega, hx, fun q => ?_, fun q => ih (i + 1) (w + 1) _ _ (by omega) (by omega) (by omega) (fun t ht e => ?_)⟩⟩⟩
      · refine vc_101_37 (d := d) (t := i) hT C T c200 (by omega) q hw hx hy (fun ne v4 v5 => ih (i + 1) (w + 1) _ _ (by omega) (by omega) (by omega) (fun t ht e => ?_)) (fun e => ⟨rfl, Or.inr ⟨i, by omega, hw, q, e⟩⟩) cnt 0 0 0 rfl (by omega) rfl rfl
        by_cases et : t = i
        · rw [et]; exact ne
        · exact al t (by omega) e
      · by_cases et : t = i
        · rw [et] at e; exact absurd e q
        · exact al t (by omega) e
  exact vg_101 (d := d + 2) hT (LOOP cnt 0 0 none none rfl (by omega) rfl (fun t ht => absurd ht (by omega)))
theorem vc_101n (hT : vx_T 625 672 h) (j31 : vx_J h 625 31 ≠ 1) : vx_CI (d + 1) 101 [.ref 625, .int (vx_i x), .int (vx_i y)] h (fun r h1 => h1 = h ∧ r = -1) :=
  vg_101 hT (vg_101_2 hT ⟨by decide, fun _ => ⟨rfl, rfl⟩, fun _ => ⟨fun _ => ⟨rfl, rfl⟩, fun q => absurd q j31⟩⟩)
end
