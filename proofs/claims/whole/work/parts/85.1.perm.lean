/-! A total is the same over all listings of the ways -/
theorem vx_i_add (p q : Int) : vx_i (p + q) = vx_i p + vx_i q := Int32.ofInt_add p q
theorem vx_w_add (p q : Int) : vx_w (vx_w p + q) = vx_w (p + q) := by
  unfold vx_w
  congr 1
  rw [vx_i_add, vx_i_add p q]
  congr 1
  exact vx_i_of _
theorem vm_o1_comm {kd x y : Int} (hx : vz_va x) (hy : vz_va y) (z : Option Int) : vm_o1 kd (vm_o1 kd z x) y = vm_o1 kd (vm_o1 kd z y) x := by
  have rx := (vz_va_l hx).2.2
  have ry := (vz_va_l hy).2.2
  cases z with
  | none =>
    show some (vm_na kd (vm_fa kd x) y) = some (vm_na kd (vm_fa kd y) x)
    congr 1
    unfold vm_na vm_fa
    by_cases k6 : kd = 6
    · rw [if_pos k6, if_pos k6, if_pos k6, if_pos k6]
    by_cases k7 : kd = 7
    · rw [if_neg k6, if_pos k7, if_neg k6, if_pos k7, if_neg k6, if_pos k7, if_neg k6, if_pos k7]
      by_cases qx : x < 72057594037927936
      · by_cases qy : y < 72057594037927936
        · rw [if_pos qx, if_pos qy, if_pos qx, if_pos qy, Int.add_comm]
        · rw [if_neg qy, if_pos qx, if_pos qx, if_neg qy, Int.zero_add, vx_w_id (rx qx)]
      · by_cases qy : y < 72057594037927936
        · rw [if_pos qy, if_neg qx, if_neg qx, if_pos qy, Int.zero_add, vx_w_id (ry qy)]
        · rw [if_neg qy, if_neg qx, if_neg qx, if_neg qy]
    by_cases k8 : kd = 8
    · rw [if_neg k6, if_neg k7, if_pos k8, if_neg k6, if_neg k7, if_neg k6, if_neg k7, if_pos k8, if_neg k6, if_neg k7, Int.min_comm]
    · rw [if_neg k6, if_neg k7, if_neg k8, if_neg k6, if_neg k7, if_neg k6, if_neg k7, if_neg k8, if_neg k6, if_neg k7, Int.max_comm]
  | some a =>
    show some (vm_na kd (vm_na kd a x) y) = some (vm_na kd (vm_na kd a y) x)
    congr 1
    unfold vm_na
    by_cases k6 : kd = 6
    · rw [if_pos k6, if_pos k6, if_pos k6, if_pos k6]
    by_cases k7 : kd = 7
    · rw [if_neg k6, if_pos k7, if_neg k6, if_pos k7, if_neg k6, if_pos k7, if_neg k6, if_pos k7]
      by_cases qx : x < 72057594037927936
      · by_cases qy : y < 72057594037927936
        · rw [if_pos qx, if_pos qy, if_pos qx, if_pos qy, vx_w_add, vx_w_add]
          congr 1
          omega
        · rw [if_neg qy, if_neg qy]
      · by_cases qy : y < 72057594037927936
        · rw [if_neg qx, if_neg qx]
        · rw [if_neg qy, if_neg qx, if_neg qx, if_neg qy]
    by_cases k8 : kd = 8
    · rw [if_neg k6, if_neg k7, if_pos k8, if_neg k6, if_neg k7, if_pos k8, if_neg k6, if_neg k7, if_pos k8, if_neg k6, if_neg k7, if_pos k8]
      omega
    · rw [if_neg k6, if_neg k7, if_neg k8, if_neg k6, if_neg k7, if_neg k8, if_neg k6, if_neg k7, if_neg k8, if_neg k6, if_neg k7, if_neg k8]
      omega
theorem vm_am_perm {kd : Int} {l1 l2 : List Int} (p : l1.Perm l2) (h : ∀ x, x ∈ l1 → vz_va x) : vm_am kd l1 = vm_am kd l2 := by
  unfold vm_am
  exact List.Perm.foldl_eq' p (fun x hx y hy z => vm_o1_comm (h x hx) (h y hy) z) none
/-- a valuation by its first places -/
def vm_cn (n : Nat) (u : Nat → Int) : List Int := (List.range n).map u
def vm_xt (x : List Int) : Nat → Int := fun i => x.getD i 0
theorem vm_xt_cn {n i : Nat} {u : Nat → Int} (hi : i < n) : vm_xt (vm_cn n u) i = u i := by
  unfold vm_xt vm_cn
  rw [List.getD_eq_getElem?_getD, List.getElem?_map, List.getElem?_range hi]
  rfl
theorem vm_cn_eq {n : Nat} {u w : Nat → Int} : vm_cn n u = vm_cn n w ↔ ∀ i, i < n → u i = w i := by
  constructor
  · intro e i hi
    have : vm_xt (vm_cn n u) i = vm_xt (vm_cn n w) i := congrArg (fun x => vm_xt x i) e
    rw [vm_xt_cn hi, vm_xt_cn hi] at this
    exact this
  · intro h
    unfold vm_cn
    apply List.map_congr_left
    intro i hi
    exact h i (List.mem_range.mp hi)
section
variable {R : vu_R} {kt : Nat} {D : vm_S} {l l2 : List (Nat → Int)} {f : Nat → Int} {u w : Nat → Int}
theorem vm_ky_nv (hR : R.1 ≠ -1) (ha : vz_aw R.2.2.2.1 false R.2.1) (h : ∀ i, i < R.2.2.2.1 → u i = w i) : vr_eq 5 (vm_ky R kt u) (vm_ky R kt w) ∧ vr_eq 5 (vm_gl R u) (vm_gl R w) := by
  have ge := vm_gl_nv (R := R) ha h
  have w5 : vm_gw R = 5 := if_neg hR
  rw [w5] at ge
  refine ⟨fun k hk => ?_, ge⟩
  by_cases q : k = kt + 1
  · rw [q, vm_ky_z, vm_ky_z]
  · rw [vm_ky_n q, vm_ky_n q]; exact ge k hk
/-- the ways of a group, by the first places alone -/
theorem vm_ws_cn (hR : R.1 ≠ -1) (ha : vz_aw R.2.2.2.1 false R.2.1) (hk : kt < 4) : vm_ws R kt l f = ((l.map (vm_cn R.2.2.2.1)).filter (fun x => decide (vr_eq 5 (vm_ky R kt (vm_xt x)) f))).map (fun x => vm_gl R (vm_xt x) (kt + 1)) := by
  have e : ∀ u : Nat → Int, vr_eq 5 (vm_ky R kt (vm_xt (vm_cn R.2.2.2.1 u))) (vm_ky R kt u) ∧ vr_eq 5 (vm_gl R (vm_xt (vm_cn R.2.2.2.1 u))) (vm_gl R u) := fun u => vm_ky_nv hR ha (fun i hi => vm_xt_cn hi)
  induction l with
  | nil => rfl
  | cons u l ih =>
    unfold vm_ws at ih ⊢
    rw [List.map_cons, List.filter_cons, List.filter_cons]
    by_cases q : vr_eq 5 (vm_ky R kt u) f
    · rw [if_pos (decide_eq_true q), if_pos (decide_eq_true (vr_eq_trans (e u).1 q)), List.map_cons, List.map_cons, ih, (e u).2 (kt + 1) (by omega)]
    · rw [if_neg (by rw [decide_eq_true_iff]; exact q), if_neg (by rw [decide_eq_true_iff]; exact fun t => q (vr_eq_trans (vr_eq_symm (e u).1) t)), ih]
theorem vm_lg_perm (a : vm_lg R D l) (b : vm_lg R D l2) : (l.map (vm_cn R.2.2.2.1)).Perm (l2.map (vm_cn R.2.2.2.1)) := by
  have nd : ∀ {l : List (Nat → Int)}, l.Pairwise (vm_dt R.2.2.2.1) → (l.map (vm_cn R.2.2.2.1)).Nodup := fun h => by
    unfold List.Nodup
    rw [List.pairwise_map]
    exact h.imp (fun t e => t (vm_cn_eq.mp e))
  have sub : ∀ {l l2 : List (Nat → Int)}, vm_lg R D l → vm_lg R D l2 → ∀ x, x ∈ l.map (vm_cn R.2.2.2.1) → x ∈ l2.map (vm_cn R.2.2.2.1) := by
    intro l l2 a b x hx
    obtain ⟨u, u1, u2⟩ := List.mem_map.mp hx
    obtain ⟨w, w1, w2⟩ := b.2.1 u (a.1 u u1).1
    exact List.mem_map.mpr ⟨w, w1, (vm_cn_eq.mpr w2).trans u2⟩
  exact (List.perm_ext_iff_of_nodup (nd a.2.2) (nd b.2.2)).mpr (fun x => ⟨sub a b x, sub b a x⟩)
theorem vm_lg_am {kd : Int} {p : Nat} (hp : R.1 = p) (p16 : p < 16) (ha : vz_aw R.2.2.2.1 false R.2.1) (ht : ∀ k, vz_tk (R.2.1 k)) (hk : kt < 4) (a : vm_lg R D l) (b : vm_lg R D l2) : vm_am kd (vm_ws R kt l f) = vm_am kd (vm_ws R kt l2 f) := by
  have hR : R.1 ≠ -1 := by omega
  have va : ∀ x, x ∈ vm_ws R kt l f → vz_va x := by
    intro x hx
    unfold vm_ws at hx
    obtain ⟨u, u1, u2⟩ := List.mem_map.mp hx
    have := (vm_gl_vr (u := u) hp p16 ha ht (a.1 u (List.mem_filter.mp u1).1).2).1.2 kt hk
    rw [← u2]; exact this
  have P : (vm_ws R kt l f).Perm (vm_ws R kt l2 f) := by
    rw [vm_ws_cn hR ha hk, vm_ws_cn (l := l2) hR ha hk]
    exact ((vm_lg_perm a b).filter _).map _
  exact vm_am_perm P va
/-- a total's row is one, whatever the listing -/
theorem vm_tt_at {p : Nat} (hp : R.1 = p) (p16 : p < 16) (ha : vz_aw R.2.2.2.1 false R.2.1) (ht : ∀ k, vz_tk (R.2.1 k)) (hk : vm_kt R < 4) (a : vm_lg R D l) (q : vm_tt R D f) : ∃ u, u ∈ l ∧ ∃ z, vm_am R.2.2.1.1 (vm_ws R (vm_kt R) l (vm_ky R (vm_kt R) u)) = some z ∧ vr_eq 5 f (vm_tr R u z) := by
  obtain ⟨l2, b, u2, u3, z, z1, z2⟩ := q
  obtain ⟨u, u4, u5⟩ := a.2.1 u2 (b.1 u2 u3).1
  have k := vm_ky_nv (kt := vm_kt R) (show R.1 ≠ -1 by omega) ha u5
  refine ⟨u, u4, z, ?_, vr_eq_trans z2 (fun c hc => ?_)⟩
  · rw [vm_ws_congr k.1, vm_lg_am hp p16 ha ht hk a b]; exact z1
  · unfold vm_tr
    by_cases q : c = vm_kt R + 1
    · rw [if_pos q, if_pos q]
    · rw [if_neg q, if_neg q]; exact (k.1 c hc).symm
end
