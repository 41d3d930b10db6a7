/-! Letters of a predicate's name: none is 0 before another -/
def vt_nz (x : Int) : Prop := ∀ j, j < 5 → vx_by x (4 - j) ≠ 0 → vx_by x (5 - j) ≠ 0
def vt_dg (c : Nat → Int) (e i : Nat) : Int := bif Nat.blt i e then c i else 0
section
variable {c : Nat → Int} {e i n : Nat}
theorem vx_blt_f (h : ¬ i < e) : Nat.blt i e = false := by
  cases hb : Nat.blt i e with
  | false => rfl
  | true => have := Nat.le_of_ble_eq_true hb; omega
theorem vx_blt_t (h : i < e) : Nat.blt i e = true := Nat.ble_eq_true_of_le h
theorem vt_dg_r (hc : ∀ j, j < e → 32 ≤ c j ∧ c j ≤ 126) (i : Nat) : (0 ≤ vt_dg c e i ∧ vt_dg c e i < 256) ∧ (vt_dg c e (i + 1) ≠ 0 → vt_dg c e i ≠ 0) := by
  unfold vt_dg
  by_cases q : i < e
  · have t := hc i q
    rw [vx_blt_t q]
    exact ⟨⟨show 0 ≤ c i by omega, show c i < 256 by omega⟩, fun _ => show c i ≠ 0 by omega⟩
  · rw [vx_blt_f q, vx_blt_f (show ¬ i + 1 < e by omega)]
    exact ⟨⟨show (0 : Int) ≤ 0 by decide, show (0 : Int) < 256 by decide⟩, fun t => absurd rfl t⟩
theorem vt_dg_6 {d0 d1 d2 d3 d4 d5 x : Int} (r0 : 0 ≤ d0 ∧ d0 < 256) (r1 : 0 ≤ d1 ∧ d1 < 256) (r2 : 0 ≤ d2 ∧ d2 < 256) (r3 : 0 ≤ d3 ∧ d3 < 256) (r4 : 0 ≤ d4 ∧ d4 < 256) (r5 : 0 ≤ d5 ∧ d5 < 256) (ex : x = 72057594037927936 + (((((d0 * 256 + d1) * 256 + d2) * 256 + d3) * 256 + d4) * 256 + d5)) : vx_by x 5 = d0 ∧ vx_by x 4 = d1 ∧ vx_by x 3 = d2 ∧ vx_by x 2 = d3 ∧ vx_by x 1 = d4 ∧ vx_by x 0 = d5 := by
  unfold vx_by
  simp only [Nat.reduceMul, Int.reducePow]
  omega
theorem vt_nm_nz (hc : ∀ j, j < e → 32 ≤ c j ∧ c j ≤ 126) : vt_nz (vt_nm c e i) := by
  have r0 := vt_dg_r hc i
  have r1 := vt_dg_r hc (i + 1)
  have r2 := vt_dg_r hc (i + 1 + 1)
  have r3 := vt_dg_r hc (i + 1 + 1 + 1)
  have r4 := vt_dg_r hc (i + 1 + 1 + 1 + 1)
  have r5 := vt_dg_r hc (i + 1 + 1 + 1 + 1 + 1)
  have ex : vt_nm c e i = 72057594037927936 + (((((vt_dg c e i * 256 + vt_dg c e (i + 1)) * 256 + vt_dg c e (i + 1 + 1)) * 256 + vt_dg c e (i + 1 + 1 + 1)) * 256 + vt_dg c e (i + 1 + 1 + 1 + 1)) * 256 + vt_dg c e (i + 1 + 1 + 1 + 1 + 1)) := by
    show 72057594037927936 + ((((((0 * 256 + vt_dg c e i) * 256 + vt_dg c e (i + 1)) * 256 + vt_dg c e (i + 1 + 1)) * 256 + vt_dg c e (i + 1 + 1 + 1)) * 256 + vt_dg c e (i + 1 + 1 + 1 + 1)) * 256 + vt_dg c e (i + 1 + 1 + 1 + 1 + 1)) = _
    rw [Int.zero_mul, Int.zero_add]
  obtain ⟨b5, b4, b3, b2, b1, b0⟩ := vt_dg_6 r0.1 r1.1 r2.1 r3.1 r4.1 r5.1 ex
  intro j hj
  have cj : j = 0 ∨ j = 1 ∨ j = 2 ∨ j = 3 ∨ j = 4 := by omega
  rcases cj with rfl | rfl | rfl | rfl | rfl
  · show vx_by _ 4 ≠ 0 → vx_by _ 5 ≠ 0
    rw [b4, b5]; exact r0.2
  · show vx_by _ 3 ≠ 0 → vx_by _ 4 ≠ 0
    rw [b3, b4]; exact r1.2
  · show vx_by _ 2 ≠ 0 → vx_by _ 3 ≠ 0
    rw [b2, b3]; exact r2.2
  · show vx_by _ 1 ≠ 0 → vx_by _ 2 ≠ 0
    rw [b1, b2]; exact r3.2
  · show vx_by _ 0 ≠ 0 → vx_by _ 1 ≠ 0
    rw [b0, b1]; exact r4.2
theorem vt_tok_nz (hi : i < n) (hc : ∀ j, j < n → 32 ≤ c j ∧ c j ≤ 126) : (vt_tok c n i).1 = 2 → vt_nz (vt_tok c n i).2.1 := by
  have hci := hc i hi
  unfold vt_tok
  split
  · have e := vt_end_le (p := vt_wb 0) (c := c) (n := n) (i := i) (by omega)
    split
    · exact fun _ => vt_nm_nz (fun j hj => hc j (by omega))
    · exact fun t => absurd (show (1 : Int) = 2 from t) (by decide)
  split
  · split
    · exact fun t => absurd (show (3 : Int) = 2 from t) (by decide)
    · exact fun t => absurd (show (1 : Int) = 2 from t) (by decide)
  split
  · split
    · exact fun t => absurd (show (4 : Int) = 2 from t) (by decide)
    · exact fun t => absurd (show (1 : Int) = 2 from t) (by decide)
  split
  · intro t
    have := vt_pair_r (c i) (vt_see c n (i + 1))
    have t : vt_pair (c i) (vt_see c n (i + 1)) = 2 := t
    omega
  split
  · intro t
    have t : c i = 2 := t
    omega
  · exact fun t => absurd (show (1 : Int) = 2 from t) (by decide)
/-- names of a text -/
def vy_ok4 (ts : vy_T) : Prop := ∀ j, vy_k ts j = 2 → vt_nz (vy_v ts j)
theorem vy_ok4_c {t : Int × Int × Int} {ts : vy_T} (h1 : t.1 = 2 → vt_nz t.2.2) (h2 : vy_ok4 ts) : vy_ok4 (t :: ts) := fun j hk => by
  cases j with
  | zero => exact h1 hk
  | succ j => exact h2 j hk
theorem vy_ok4_n : vy_ok4 [] := fun j hk => by
  have t : (0 : Int) = 2 := by
    rw [← hk]
    rfl
  exact absurd t (by decide)
theorem vt_toks_nz (hc : ∀ j, j < n → 32 ≤ c j ∧ c j ≤ 126) : ∀ f i, vy_ok4 (vt_toks c n f i)
  | 0, i => vy_ok4_c (fun t => absurd (show (0 : Int) = 2 from t) (by decide)) vy_ok4_n
  | f + 1, i => by
    have e0 : vt_toks c n (f + 1) i = if i < n then (if c i = 32 then vt_toks c n f (i + 1) else ((vt_tok c n i).1, (i : Int), (vt_tok c n i).2.1) :: vt_toks c n f (vt_tok c n i).2.2) else [(0, (n : Int), 0)] := rfl
    rw [e0]
    by_cases q : i < n
    · rw [if_pos q]
      by_cases q2 : c i = 32
      · rw [if_pos q2]; exact vt_toks_nz hc f (i + 1)
      · rw [if_neg q2]; exact vy_ok4_c (vt_tok_nz q hc) (vt_toks_nz hc f _)
    · rw [if_neg q]
      exact vy_ok4_c (fun t => absurd (show (0 : Int) = 2 from t) (by decide)) vy_ok4_n
end
/-- names of the predicates -/
def vu_nz (Pd : vy_V) : Prop := ∀ p, p < Pd.1 → vt_nz (Pd.2.1 p)
section
variable {i : Nat} {ts : vy_T} {V Pd : vy_V} {O : vy_O} {F : vy_F} {L : vy_L} {op hd any : Bool} {at_ : Nat} {S S' : vu_S} {x y : Int}
theorem vy_va_nz (w : vu_nz Pd) (hx : vt_nz x) : vu_nz (vy_va Pd x y) := fun p hp => by
  show vt_nz (if p = Pd.1 then x else Pd.2.1 p)
  by_cases q : p = Pd.1
  · rw [if_pos q]; exact hx
  · rw [if_neg q]; exact w p (by have : p < Pd.1 + 1 := hp; omega)
theorem vy_am_nz (ok : vy_ok4 ts) (w : vu_nz Pd) {q} (e : vy_am ts op hd any i V O Pd F = .inr q) : vu_nz q.2.2.2.2.2.2.1 := by
  unfold vy_am at e
  split at e
  · exact absurd e (by simp)
  · rename_i k2
    split at e
    · exact absurd e (by simp)
    · split at e
      · exact absurd e (by simp)
      · split at e
        · exact absurd e (by simp)
        · split at e
          · exact absurd e (by simp)
          · split at e
            · injection e with e; rw [← e]; exact w
            · split at e
              · injection e with e; rw [← e]; exact vy_va_nz w (ok i (Decidable.of_not_not k2))
              · injection e with e; rw [← e]; exact w
theorem vy_li_nz (ok : vy_ok4 ts) (w : vu_nz Pd) {q} (e : vy_li ts op i V O Pd F L at_ = .inr q) : vu_nz q.2.2.1 := by
  unfold vy_li at e
  split at e
  · split at e
    · exact absurd e (by simp)
    · rename_i r hr
      injection e with e; rw [← e]
      exact vy_am_nz ok w hr
  · split at e
    · split at e
      · exact absurd e (by simp)
      · split at e
        · exact absurd e (by simp)
        · rename_i r hr
          injection e with e; rw [← e]
          exact vy_am_nz ok w hr
    · split at e
      · exact absurd e (by simp)
      · injection e with e; rw [← e]; exact w
theorem vy_bo_nz (ok : vy_ok4 ts) : ∀ (m i : Nat) (V Pd : vy_V) (F : vy_F) (L : vy_L) (at_ : Nat) {q : Nat × vy_V × vy_V × vy_F × vy_L × Nat}, vu_nz Pd → vy_bo ts op O m i V Pd F L at_ = .inr q → vu_nz q.2.2.1
  | 0, i, V, Pd, F, L, at_, q, _, e => by exact absurd e (by unfold vy_bo; simp)
  | m + 1, i, V, Pd, F, L, at_, q, w, e => by
    unfold vy_bo at e
    cases e2 : vy_li ts op i V O Pd F L at_ with
    | inl p => rw [e2] at e; exact absurd e (by simp)
    | inr r =>
      rw [e2] at e
      have t := vy_li_nz ok w e2
      have e' : (if vy_k ts r.1 = 44 then vy_bo ts op O m (r.1 + 1) r.2.1 r.2.2.1 r.2.2.2.1 r.2.2.2.2.1 r.2.2.2.2.2 else Sum.inr r) = Sum.inr q := e
      by_cases k : vy_k ts r.1 = 44
      · rw [if_pos k] at e'
        exact vy_bo_nz ok m _ _ _ _ _ _ t e'
      · rw [if_neg k] at e'
        injection e' with e'
        rw [← e']; exact t
theorem vu_cs_nz (ok : vy_ok4 ts) (w : vu_nz Pd) {n : Nat} {q} (e : vu_cs ts n i Pd F = .inr q) : vu_nz q.2.1 := by
  unfold vu_cs at e
  split at e
  · exact absurd e (by simp)
  · rename_i r hr
    have t := vy_am_nz ok w hr
    split at e
    · split at e
      · exact absurd e (by simp)
      · injection e with e; rw [← e]; exact t
    · split at e
      · exact absurd e (by simp)
      · split at e
        · exact absurd e (by simp)
        · split at e
          · exact absurd e (by simp)
          · rename_i u hu
            split at e
            · exact absurd e (by simp)
            · injection e with e; rw [← e]
              exact vy_bo_nz ok 6 _ _ _ _ _ _ t hu
theorem vu_pl_nz (ok : vy_ok4 ts) : ∀ (m i : Nat) (S : vu_S), vu_nz S.1 → vu_pl ts m i S = .inr S' → vu_nz S'.1
  | 0, i, S, w, e => by unfold vu_pl at e; injection e with e; rw [← e]; exact w
  | m + 1, i, S, w, e => by
    rw [vu_pl_s] at e
    split at e
    · injection e with e; rw [← e]; exact w
    · split at e
      · exact absurd e (by simp)
      · rename_i q hq
        refine vu_pl_nz ok m q.1 (vu_nx S q) ?_ e
        have t := vu_cs_nz ok w hq
        unfold vu_nx
        cases hk : q.2.2.2 with
        | inl f => exact t
        | inr R => exact t
theorem vu_prog_nz (ok : vy_ok4 ts) (e : vu_prog ts = .inr S) : vu_nz S.1 := by
  unfold vu_prog at e
  split at e
  · exact absurd e (by simp)
  · rename_i S1 h1
    split at e
    · exact absurd e (by simp)
    · split at e
      · exact absurd e (by simp)
      · injection e with e
        rw [← e]
        exact vu_pl_nz ok 600 0 vu_S0 (fun r hr => absurd (show r < 0 from hr) (by omega)) h1
end
/-! Letters: the reference -/
theorem vn_kl_e {u : Int} {n : Nat} (n1 : 1 ≤ n ∧ n ≤ 6) (lo : 2 ^ (8 * (n - 1)) ≤ u) (hi : u / 2 ^ (8 * n) ≤ 0) : vn_kl u = n := by
  have cn : n = 1 ∨ n = 2 ∨ n = 3 ∨ n = 4 ∨ n = 5 ∨ n = 6 := by omega
  rcases cn with rfl | rfl | rfl | rfl | rfl | rfl <;> simp only [Nat.reduceSub, Nat.reduceMul, Int.reducePow] at lo hi <;> unfold vn_kl
  · rw [if_pos (by omega)]
  · rw [if_neg (by omega), if_pos (by omega)]
  · rw [if_neg (by omega), if_neg (by omega), if_pos (by omega)]
  · rw [if_neg (by omega), if_neg (by omega), if_neg (by omega), if_pos (by omega)]
  · rw [if_neg (by omega), if_neg (by omega), if_neg (by omega), if_neg (by omega), if_pos (by omega)]
  · rw [if_neg (by omega), if_neg (by omega), if_neg (by omega), if_neg (by omega), if_neg (by omega)]
theorem vx_lshr8 {w : Int} (hw : vx_rL w) : vx_lshr w 8 = w / 256 := by
  unfold vx_lshr
  rw [vx_sh_at _ _ 8 (by decide), vx_l_toInt hw]
  rfl
section
variable {d : Nat} {h : ve_H} {u x : Int}
theorem vx_sh_n {n : Nat} (hu : vt_vs u) (n6 : n ≤ 6) : vx_rL (u / 2 ^ (8 * n)) ∧ u / 2 ^ (8 * n) / 256 = u / 2 ^ (8 * (n + 1)) ∧ (0 < u / 2 ^ (8 * n) → 2 ^ (8 * n) ≤ u ∧ n < 6) := by
  obtain ⟨u1, u2, _⟩ := hu
  have cn : n = 0 ∨ n = 1 ∨ n = 2 ∨ n = 3 ∨ n = 4 ∨ n = 5 ∨ n = 6 := by omega
  rcases cn with rfl | rfl | rfl | rfl | rfl | rfl | rfl <;> simp only [Nat.reduceAdd, Nat.reduceMul, Int.reducePow] <;> refine ⟨?_, ?_, ?_⟩ <;> omega
/-- how many letters a name has: the reference -/
theorem vc_98 (hT : vx_T 625 672 h) (hu : vt_vs u) : vx_CI d 98 [.long (vx_l u)] h (fun r h1 => h1 = h ∧ r = (vn_kl u : Nat)) := by
  have LOOP : ∀ (m n : Nat) (z w : Int), m = 6 - n → n ≤ 6 → z = n → w = u / 2 ^ (8 * n) → (n = 0 ∨ 2 ^ (8 * (n - 1)) ≤ u) → vx_W d 98 4 [some (.long (vx_l u)), none, some (.int (vx_i z)), some (.long (vx_l w)), none] [] h (vx_RI (fun r h1 => h1 = h ∧ r = (vn_kl u : Nat))) := by
    intro m
    induction m with
    | zero =>
      intro n z w hm hn hz hw lo
      have s := vx_sh_n hu hn
      have en : n = 6 := by omega
      refine vg_98_4 hT ?_
      rw [hw]
      refine ⟨s.1, fun q => ⟨by omega, rfl, ?_⟩, fun q => absurd (s.2.2 q).2 (by omega)⟩
      rw [vn_kl_e (n := n) (by omega) (lo.resolve_left (by omega)) q]
      exact hz
    | succ m ih =>
      intro n z w hm hn hz hw lo
      have s := vx_sh_n hu hn
      refine vg_98_4 hT ?_
      rw [hw]
      refine ⟨s.1, fun q => ⟨by omega, rfl, ?_⟩, fun q => ?_⟩
      · by_cases n0 : n = 0
        · exfalso
          have u1 := hu.1
          rw [n0] at q
          simp only [Nat.reduceMul, Int.reducePow] at q
          omega
        · rw [vn_kl_e (n := n) (by omega) (lo.resolve_left n0) q]
          exact hz
      · rw [vx_lshr8 s.1]
        exact ih (n + 1) (z + 1) _ (by omega) (by omega) (by omega) s.2.1 (Or.inr (by rw [show n + 1 - 1 = n by omega]; exact (s.2.2 q).1))
  refine vg_98 hT (LOOP 6 0 0 u rfl (by omega) rfl ?_ (Or.inl rfl))
  simp only [Nat.reduceMul, Int.reducePow]
  omega
/-- letter i of a name: the class's and the reference's -/
theorem vn_kl_by {i : Nat} (hu : vt_vs u) (hx : x = 72057594037927936 + vt_lf u) (hi : i < vn_kl u) : vx_by x (5 - i) = vx_by u (vn_kl u - 1 - i) := by
  obtain ⟨u1, u2, u3⟩ := hu
  unfold vt_lf at hx
  unfold vn_kl at hi ⊢
  by_cases c1 : u < 256
  · rw [if_pos c1] at hx hi ⊢
    have : i = 0 := by omega
    subst this; subst hx
    unfold vx_by; simp only [Nat.reduceSub, Nat.reduceMul, Int.reducePow]; omega
  rw [if_neg c1] at hx hi ⊢
  by_cases c2 : u < 65536
  · rw [if_pos c2] at hx hi ⊢
    have : i = 0 ∨ i = 1 := by omega
    subst hx
    rcases this with rfl | rfl <;> unfold vx_by <;> simp only [Nat.reduceSub, Nat.reduceMul, Int.reducePow] <;> omega
  rw [if_neg c2] at hx hi ⊢
  by_cases c3 : u < 16777216
  · rw [if_pos c3] at hx hi ⊢
    have : i = 0 ∨ i = 1 ∨ i = 2 := by omega
    subst hx
    rcases this with rfl | rfl | rfl <;> unfold vx_by <;> simp only [Nat.reduceSub, Nat.reduceMul, Int.reducePow] <;> omega
  rw [if_neg c3] at hx hi ⊢
  by_cases c4 : u < 4294967296
  · rw [if_pos c4] at hx hi ⊢
    have : i = 0 ∨ i = 1 ∨ i = 2 ∨ i = 3 := by omega
    subst hx
    rcases this with rfl | rfl | rfl | rfl <;> unfold vx_by <;> simp only [Nat.reduceSub, Nat.reduceMul, Int.reducePow] <;> omega
  rw [if_neg c4] at hx hi ⊢
  by_cases c5 : u < 1099511627776
  · rw [if_pos c5] at hx hi ⊢
    have : i = 0 ∨ i = 1 ∨ i = 2 ∨ i = 3 ∨ i = 4 := by omega
    subst hx
    rcases this with rfl | rfl | rfl | rfl | rfl <;> unfold vx_by <;> simp only [Nat.reduceSub, Nat.reduceMul, Int.reducePow] <;> omega
  rw [if_neg c5] at hx hi ⊢
  have : i = 0 ∨ i = 1 ∨ i = 2 ∨ i = 3 ∨ i = 4 ∨ i = 5 := by omega
  subst hx
  rcases this with rfl | rfl | rfl | rfl | rfl | rfl <;> unfold vx_by <;> simp only [Nat.reduceSub, Nat.reduceMul, Int.reducePow] <;> omega
/-- every letter of a name is there -/
theorem vn_kl_nz {i : Nat} (hu : vt_vs u) (hx : x = 72057594037927936 + vt_lf u) (nz : vt_nz x) (hi : i < vn_kl u) : vx_by x (5 - i) ≠ 0 := by
  have kb := vn_kl_b hu hx
  have kr := (vn_kl_r hu).2
  have G : ∀ m, m < vn_kl u → vx_by x (6 - vn_kl u + m) ≠ 0 := by
    intro m
    induction m with
    | zero => intro _; exact kb.1
    | succ m ih =>
      intro hm
      have t := nz (vn_kl u - 2 - m) (by omega) (by rw [show 4 - (vn_kl u - 2 - m) = 6 - vn_kl u + m by omega]; exact ih (by omega))
      rw [show 5 - (vn_kl u - 2 - m) = 6 - vn_kl u + (m + 1) by omega] at t
      exact t
  have t := G (vn_kl u - 1 - i) (by omega)
  rw [show 6 - vn_kl u + (vn_kl u - 1 - i) = 5 - i by omega] at t
  exact t
end
