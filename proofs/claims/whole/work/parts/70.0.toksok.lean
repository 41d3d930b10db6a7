/-! Tokens are well-formed -/
theorem vt_tok_k {c : Nat → Int} {n i : Nat} (hi : i < n) (hc : ∀ j, j < n → 32 ≤ c j ∧ c j ≤ 126) : (vt_tok c n i).1 ≠ 0 ∧ ((vt_tok c n i).1 = 4 → 0 ≤ (vt_tok c n i).2.1 ∧ (vt_tok c n i).2.1 < 1000000000) ∧ ((vt_tok c n i).1 = 2 → ∃ u, vt_vs u ∧ (vt_tok c n i).2.1 = 72057594037927936 + vt_lf u) := by
  have N : ∀ e, e ≤ n → i < e → e ≤ i + 6 → ∃ u, vt_vs u ∧ vt_nm c e i = 72057594037927936 + vt_lf u := by
    intro e he h1 h6
    have := vt_nm_lf (c := c) h1 h6 (fun j _ h2 => hc j (by omega))
    exact ⟨_, this.2, this.1⟩
  have K : ∀ v, vt_nk v ≠ 0 ∧ vt_nk v ≠ 4 := by
    intro v
    unfold vt_nk
    split
    · decide
    split
    · decide
    split
    · decide
    split
    · decide
    split
    · decide
    · decide
  have hci := hc i hi
  unfold vt_tok
  split
  · rename_i q
    have e := vt_end_le (p := vt_wb 0) (c := c) (n := n) (i := i + 1) (by omega)
    rw [← vt_end_t (p := vt_wb 0) (c := c) hi (decide_eq_true (by omega))] at e
    split
    · rename_i q6
      exact ⟨(K _).1, fun t => absurd t (K _).2, fun _ => N _ e.2 (by omega) q6⟩
    · exact ⟨show (1 : Int) ≠ 0 by decide, fun t => absurd (show (1 : Int) = 4 from t) (by decide), fun t => absurd (show (1 : Int) = 2 from t) (by decide)⟩
  split
  · split
    · exact ⟨show (3 : Int) ≠ 0 by decide, fun t => absurd (show (3 : Int) = 4 from t) (by decide), fun t => absurd (show (3 : Int) = 2 from t) (by decide)⟩
    · exact ⟨show (1 : Int) ≠ 0 by decide, fun t => absurd (show (1 : Int) = 4 from t) (by decide), fun t => absurd (show (1 : Int) = 2 from t) (by decide)⟩
  split
  · split
    · rename_i q9
      refine ⟨show (4 : Int) ≠ 0 by decide, fun _ => ?_, fun t => absurd (show (4 : Int) = 2 from t) (by decide)⟩
      have D : ∀ j, i ≤ j → j < vt_end vt_db c n i → 48 ≤ c j ∧ c j ≤ 57 := fun j h1 h2 => of_decide_eq_true (vt_end_all h1 h2)
      have := vt_num_r (c := c) (vt_end vt_db c n i - i) i 0 1 (fun j h1 h2 => D j h1 (by omega)) (by decide) (by decide)
      have hk : vt_end vt_db c n i - i ≤ 9 := by omega
      have pw : ∀ k, k ≤ 9 → (10 : Int) ^ k ≤ 1000000000 := by decide
      have := pw _ hk
      show 0 ≤ vt_num c (vt_end vt_db c n i - i) i 0 ∧ vt_num c (vt_end vt_db c n i - i) i 0 < 1000000000
      omega
    · exact ⟨show (1 : Int) ≠ 0 by decide, fun t => absurd (show (1 : Int) = 4 from t) (by decide), fun t => absurd (show (1 : Int) = 2 from t) (by decide)⟩
  split
  · have := vt_pair_r (c i) (vt_see c n (i + 1))
    refine ⟨?_, fun t => ?_, fun t => ?_⟩
    · show vt_pair (c i) (vt_see c n (i + 1)) ≠ 0; omega
    · have t : vt_pair (c i) (vt_see c n (i + 1)) = 4 := t; omega
    · have t : vt_pair (c i) (vt_see c n (i + 1)) = 2 := t; omega
  split
  · refine ⟨?_, fun t => ?_, fun t => ?_⟩
    · show c i ≠ 0; omega
    · have t : c i = 4 := t; omega
    · have t : c i = 2 := t; omega
  · exact ⟨show (1 : Int) ≠ 0 by decide, fun t => absurd (show (1 : Int) = 4 from t) (by decide), fun t => absurd (show (1 : Int) = 2 from t) (by decide)⟩
/-- a token, as a reader may rely on it -/
def vt_g1 (n i : Nat) (last : Bool) (t : Int × Int × Int) : Prop := (t.1 = 0 ↔ last = true) ∧ (i : Int) ≤ t.2.1 ∧ t.2.1 ≤ n ∧ (last = false → t.2.1 < n) ∧ (t.1 = 4 → 0 ≤ t.2.2 ∧ t.2.2 < 1000000000) ∧ (t.1 = 2 → ∃ u, vt_vs u ∧ t.2.2 = 72057594037927936 + vt_lf u)
theorem vt_toks_g {c : Nat → Int} {n : Nat} (hc : ∀ j, j < n → 32 ≤ c j ∧ c j ≤ 126) : ∀ (f i : Nat), i ≤ n → 1 ≤ (vt_toks c n f i).length ∧ (vt_toks c n f i).length ≤ n - i + 1 ∧ (∀ j, j < (vt_toks c n f i).length → vt_g1 n i (decide (j + 1 = (vt_toks c n f i).length)) ((vt_toks c n f i).getD j (0, 0, 0))) ∧ ∀ a b, a < b → b < (vt_toks c n f i).length → ((vt_toks c n f i).getD a (0, 0, 0)).2.1 < ((vt_toks c n f i).getD b (0, 0, 0)).2.1 := by
  have E : ∀ i, i ≤ n → 1 ≤ [((0 : Int), (n : Int), (0 : Int))].length ∧ [((0 : Int), (n : Int), (0 : Int))].length ≤ n - i + 1 ∧ (∀ j, j < [((0 : Int), (n : Int), (0 : Int))].length → vt_g1 n i (decide (j + 1 = [((0 : Int), (n : Int), (0 : Int))].length)) ([((0 : Int), (n : Int), (0 : Int))].getD j (0, 0, 0))) ∧ ∀ a b, a < b → b < [((0 : Int), (n : Int), (0 : Int))].length → ([((0 : Int), (n : Int), (0 : Int))].getD a (0, 0, 0)).2.1 < ([((0 : Int), (n : Int), (0 : Int))].getD b (0, 0, 0)).2.1 := by
    intro i hi
    refine ⟨Nat.le_refl 1, by show 1 ≤ n - i + 1; omega, fun j hj => ?_, fun a b h1 h2 => ?_⟩
    · have hj0 : j = 0 := Nat.lt_one_iff.mp hj
      subst hj0
      refine ⟨⟨fun _ => rfl, fun _ => rfl⟩, ?_, Int.le_refl _, fun t => absurd (show true = false from t) (by decide), fun t => absurd (show (0 : Int) = 4 from t) (by decide), fun t => absurd (show (0 : Int) = 2 from t) (by decide)⟩
      show (i : Int) ≤ (n : Int)
      omega
    · have h2 : b < 1 := h2
      omega
  intro f
  induction f with
  | zero => intro i hi; exact E i hi
  | succ f ih =>
    intro i hi
    have e0 : vt_toks c n (f + 1) i = if i < n then (if c i = 32 then vt_toks c n f (i + 1) else ((vt_tok c n i).1, (i : Int), (vt_tok c n i).2.1) :: vt_toks c n f (vt_tok c n i).2.2) else [(0, (n : Int), 0)] := rfl
    by_cases q : i < n
    · rw [if_pos q] at e0
      by_cases q2 : c i = 32
      · rw [if_pos q2] at e0
        rw [e0]
        obtain ⟨a1, a2, a3, a4⟩ := ih (i + 1) (by omega)
        refine ⟨a1, by omega, fun j hj => ?_, a4⟩
        obtain ⟨b1, b2, b3⟩ := a3 j hj
        exact ⟨b1, by omega, b3⟩
      · rw [if_neg q2] at e0
        rw [e0]
        have nx := vt_tok_next (c := c) q
        have tk := vt_tok_k q hc
        obtain ⟨a1, a2, a3, a4⟩ := ih (vt_tok c n i).2.2 nx.2
        refine ⟨by rw [List.length_cons]; omega, by rw [List.length_cons]; omega, fun j hj => ?_, fun a b h1 h2 => ?_⟩
        · rw [List.length_cons] at hj ⊢
          cases j with
          | zero =>
            rw [decide_eq_false (show ¬ 0 + 1 = (vt_toks c n f (vt_tok c n i).2.2).length + 1 by omega)]
            refine ⟨⟨fun t => absurd t tk.1, fun t => absurd t (by decide)⟩, Int.le_refl _, ?_, fun _ => ?_, tk.2.1, tk.2.2⟩
            · show (i : Int) ≤ (n : Int); omega
            · show (i : Int) < (n : Int); omega
          | succ j =>
            obtain ⟨b1, b2, b3⟩ := a3 j (by omega)
            have ed : decide (j + 1 + 1 = (vt_toks c n f (vt_tok c n i).2.2).length + 1) = decide (j + 1 = (vt_toks c n f (vt_tok c n i).2.2).length) := decide_eq_decide.mpr (by omega)
            rw [ed, List.getD_cons_succ]
            exact ⟨b1, by omega, b3⟩
        · rw [List.length_cons] at h2
          cases b with
          | zero => omega
          | succ b =>
            rw [List.getD_cons_succ]
            cases a with
            | zero =>
              obtain ⟨-, b2, -⟩ := a3 b (by omega)
              rw [List.getD_cons_zero]
              show (i : Int) < _
              omega
            | succ a =>
              rw [List.getD_cons_succ]
              exact a4 a b (by omega) (by omega)
    · rw [if_neg q] at e0
      rw [e0]
      exact E i hi
def vy_ok3 (ts : vy_T) : Prop := ∀ j, j < ts.length → vy_k ts j = 2 → ∃ u, vt_vs u ∧ vy_v ts j = 72057594037927936 + vt_lf u
theorem vt_toks_ok {c : Nat → Int} {n : Nat} (hn : n ≤ 600) (hc : ∀ j, j < n → 32 ≤ c j ∧ c j ≤ 126) : vy_ok (vt_toks c n 600 0) ∧ vy_ok2 (vt_toks c n 600 0) ∧ vy_ok3 (vt_toks c n 600 0) := by
  obtain ⟨a1, a2, a3, a4⟩ := vt_toks_g hc 600 0 (Nat.zero_le _)
  refine ⟨⟨a1, by omega, fun j hj => ?_, fun j hj => ?_, a4, fun j hj => (a3 j hj).2.2.2.2.1⟩, fun j hj t => ?_, fun j hj => (a3 j hj).2.2.2.2.2⟩
  · exact (a3 j hj).1.trans decide_eq_true_iff
  · have := a3 j hj
    exact ⟨by have := this.2.1; show 0 ≤ ((vt_toks c n 600 0).getD j (0, 0, 0)).2.1; omega, by have := this.2.2.1; show ((vt_toks c n 600 0).getD j (0, 0, 0)).2.1 ≤ 600; omega⟩
  · obtain ⟨u, h1, h2⟩ := (a3 j hj).2.2.2.2.2 t
    have := vt_lf_r h1
    show 72057594037927936 ≤ ((vt_toks c n 600 0).getD j (0, 0, 0)).2.2 ∧ ((vt_toks c n 600 0).getD j (0, 0, 0)).2.2 < 144115188075855872
    omega
