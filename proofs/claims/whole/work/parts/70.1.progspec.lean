/-! Programs: what comes out of their reading -/
abbrev vu_S : Type := vy_V × vy_F × Nat × (Nat → vu_R) × Nat × (Nat → Nat → Int)
noncomputable def vu_nx (S : vu_S) (q : Nat × vy_V × vy_F × ((Int × (Nat → Int)) ⊕ vu_R)) : vu_S := match q.2.2.2 with
  | .inl f => (q.2.1, q.2.2.1, S.2.2.1, S.2.2.2.1, (vu_fa S.2.2.2.2.1 S.2.2.2.2.2 (vu_row f.1 f.2)).1, (vu_fa S.2.2.2.2.1 S.2.2.2.2.2 (vu_row f.1 f.2)).2)
  | .inr R => (q.2.1, q.2.2.1, S.2.2.1 + 1, fun r => if r = S.2.2.1 then R else S.2.2.2.1 r, S.2.2.2.2.1, S.2.2.2.2.2)
noncomputable def vu_pl (ts : vy_T) : Nat → Nat → vu_S → Int ⊕ vu_S
  | 0, _, S => .inr S
  | m + 1, i, S => if vy_k ts i = 0 then .inr S else match vu_cs ts S.2.2.1 i S.1 S.2.1 with
    | .inl p => .inl p
    | .inr q => vu_pl ts m q.1 (vu_nx S q)
def vu_R0 : vu_R := (0, fun _ => 0, vu_O0, 0, vu_L0)
def vu_S0 : vu_S := (vu_V0, (0, 0), 0, fun _ => vu_R0, 0, fun _ _ => 0)
/-- a term is a value, a variable or anything -/
def vz_va (t : Int) : Prop := ∃ v, vy_vr t v
def vz_tk (t : Int) : Prop := vz_va t ∨ (∃ i, vz_v t i) ∨ t = 288230376151711744
/-- a total stands at an argument, a variable -/
def vz_ov (O : vy_O) (A : Nat → Int) (n : Nat) : Prop := O.1 = -1 ∨ ((6 ≤ O.1 ∧ O.1 ≤ 9) ∧ ∃ k : Nat, O.2.1 = k ∧ k < n ∧ ∃ v, vz_v (A k) v)
def vu_wL (Pd : vy_V) (L : vy_L) : Prop := ∀ j, j < L.1 → (∀ k, vz_tk (L.2.2.2.2 j k)) ∧ ((L.2.1 j = 14 ∨ L.2.1 j = 15) → ∃ p m : Nat, L.2.2.1 j = p ∧ p < Pd.1 ∧ Pd.2.2 p = m ∧ 1 ≤ m ∧ m ≤ 4 ∧ ∀ k, m ≤ k → L.2.2.2.2 j k = 0) ∧ (L.2.1 j = 5 → vy_opn (L.2.2.1 j))
def vu_wO (L : vy_L) (O : vy_O) (p : Int) : Prop := (∀ a b, a < b → b < L.1 → L.2.2.2.1 a < L.2.2.2.1 b) ∧ (∀ a, a < L.1 → 0 ≤ L.2.2.2.1 a ∧ L.2.2.2.1 a < p) ∧ (O.1 ≠ -1 → 0 ≤ O.2.2 ∧ ∀ a, a < L.1 → O.2.2 < L.2.2.2.1 a)
/-- a rule, as it is when no fault was found -/
def vu_wR (Pd : vy_V) (R : vu_R) : Prop := vz_wf R.2.2.1.1 R.2.2.2.1 R.2.2.2.2 ∧ R.2.2.2.1 ≤ 8 ∧ (1 ≤ R.2.2.2.2.1 ∧ R.2.2.2.2.1 ≤ 6) ∧ (∀ v, v < R.2.2.2.1 → vz_bd R.2.2.2.2 v) ∧ vz_aw R.2.2.2.1 false R.2.1 ∧ (∀ k, vz_tk (R.2.1 k)) ∧ (∃ p m : Nat, R.1 = p ∧ p < Pd.1 ∧ Pd.2.2 p = m ∧ 1 ≤ m ∧ m ≤ 4 ∧ (∀ k, m ≤ k → R.2.1 k = 0) ∧ vz_ov R.2.2.1 R.2.1 m) ∧ vu_wL Pd R.2.2.2.2 ∧ ∃ p, vu_wO R.2.2.2.2 R.2.2.1 p
/-- a fact -/
def vu_wA (Pd : vy_V) (r : Nat → Int) : Prop := ∃ p m : Nat, r 0 = p ∧ p < Pd.1 ∧ Pd.2.2 p = m ∧ 1 ≤ m ∧ m ≤ 4 ∧ (∀ k, vz_va (r (k + 1))) ∧ ∀ k, m ≤ k → r (k + 1) = 0
def vu_wK (Pd : vy_V) (K : (Int × (Nat → Int)) ⊕ vu_R) : Prop := match K with
  | .inl f => vu_wA Pd (vu_row f.1 f.2)
  | .inr R => vu_wR Pd R
section
variable {d i n m : Nat} {ts : vy_T} {V Pd Pd' : vy_V} {O : vy_O} {F F' : vy_F} {L : vy_L} {op : Bool} {x y : Int} {R : vu_R}
theorem vz_va0 : vz_va 0 := ⟨0, Or.inl ⟨rfl, by decide, by decide⟩⟩
theorem vz_tk0 : vz_tk 0 := Or.inl vz_va0
theorem vz_tk_set {A : Nat → Int} {k0 : Nat} {t : Int} (h : ∀ k, vz_tk (A k)) (ht : vz_tk t) : ∀ k, vz_tk (vy_set A k0 t k) := by
  intro k
  unfold vy_set
  split
  · exact ht
  · exact h k
theorem vy_tm_t {any : Bool} {q : Int × Nat × vy_V} (ok : vy_ok ts) (ok3 : vy_ok3 ts) (hV : V.1 ≤ 8) (e : vy_tm ts any i V = .inr q) : vz_tk q.1 := by
  unfold vy_tm at e
  split at e
  · split at e
    · rename_i q4
      cases e
      have := ok.2.2.2.2.2 (i + 1) (vy_in (by omega)) q4
      exact Or.inl ⟨_, Or.inl ⟨rfl, by omega, by omega⟩⟩
    · cases e
  split at e
  · rename_i q4
    cases e
    rcases q4 with q4 | q4
    · have := ok.2.2.2.2.2 i (vy_in (by omega)) q4
      exact Or.inl ⟨_, Or.inl ⟨rfl, by omega, by omega⟩⟩
    · obtain ⟨u, h1, h2⟩ := ok3 i (vy_in (by omega)) q4
      exact Or.inl ⟨_, Or.inr ⟨u, h1, rfl, h2⟩⟩
  split at e
  · split at e
    · rename_i q3
      cases e
      exact Or.inr (Or.inl ⟨vy_vx V (vy_v ts i), by omega, rfl⟩)
    split at e
    · rename_i q3
      cases e
      exact Or.inr (Or.inl ⟨V.1, by omega, rfl⟩)
    · cases e
  split at e
  · cases e; exact Or.inr (Or.inr rfl)
  · cases e
theorem vy_ar_t {hd any : Bool} (ok : vy_ok ts) (ok2 : vy_ok2 ts) (ok3 : vy_ok3 ts) : ∀ (m i : Nat) (V : vy_V) (O : vy_O) (A : Nat → Int) {q : Nat × vy_V × vy_O × (Nat → Int) × Nat}, vy_ar ts hd any m i V O A = .inr q → V.1 ≤ 8 → (∀ k, vz_tk (A k)) → ∀ k, vz_tk (q.2.2.2.1 k)
  | 0, i, V, O, A, q, e, hV, hA => by cases e
  | m + 1, i, V, O, A, q, e, hV, hA => by
    unfold vy_ar at e
    split at e
    · split at e
      · cases e
      split at e
      · cases e
      split at e
      · cases e
      split at e
      · cases e
      rename_i u hu
      have A1 := vz_tk_set (k0 := 3 - m) hA (vy_tm_t ok ok3 hV hu)
      have W := vy_tm_w ok ok2 hV hu
      split at e
      · cases e
      split at e
      · exact vy_ar_t ok ok2 ok3 m _ _ _ _ e W.2.1 A1
      · cases e; exact A1
    · split at e
      · cases e
      rename_i u hu
      have A1 := vz_tk_set (k0 := 3 - m) hA (vy_tm_t ok ok3 hV hu)
      have W := vy_tm_w ok ok2 hV hu
      split at e
      · exact vy_ar_t ok ok2 ok3 m _ _ _ _ e W.2.1 A1
      · cases e; exact A1
theorem vy_ar_ov {hd any : Bool} (ok : vy_ok ts) (ok2 : vy_ok2 ts) : ∀ (m i : Nat) (V : vy_V) (O : vy_O) (A : Nat → Int) {q : Nat × vy_V × vy_O × (Nat → Int) × Nat}, vy_ar ts hd any m i V O A = .inr q → m ≤ 4 → V.1 ≤ 8 → vz_ov O A (4 - m) → (O.1 ≠ -1 → ∃ y, O.2.2 = vy_p ts y ∧ y < i ∧ y < ts.length) → vz_ov q.2.2.1 q.2.2.2.1 q.2.2.2.2 ∧ (q.2.2.1.1 ≠ -1 → ∃ y, q.2.2.1.2.2 = vy_p ts y ∧ y < q.1 ∧ y < ts.length)
  | 0, i, V, O, A, q, e, hm, hV, hO, hY => by cases e
  | m + 1, i, V, O, A, q, e, hm, hV, hO, hY => by
    unfold vy_ar at e
    split at e
    · rename_i q0
      split at e
      · cases e
      split at e
      · cases e
      split at e
      · cases e
      rename_i q3
      split at e
      · cases e
      rename_i u hu
      have W := vy_tm_w ok ok2 hV hu
      have I := vy_tm_i hu
      have O1 : vz_ov (vy_k ts i, 3 - (m : Int), vy_p ts i) (vy_set A (3 - m) u.1) (4 - m) := by
        obtain ⟨j, hj⟩ := W.2.2.2.2 (by omega)
        refine Or.inr ⟨q0.2, 3 - m, by show 3 - (m : Int) = ((3 - m : Nat) : Int); omega, by omega, j, ?_⟩
        rw [vy_set_eq]
        exact hj
      have hin : i < ts.length := vy_in (by omega)
      split at e
      · cases e
      split at e
      · exact vy_ar_ov ok ok2 m _ _ _ _ e (by omega) W.2.1 O1 (fun _ => ⟨i, rfl, by omega, hin⟩)
      · cases e; exact ⟨O1, fun _ => ⟨i, rfl, by show i < u.2.1 + 1; omega, hin⟩⟩
    · split at e
      · cases e
      rename_i u hu
      have W := vy_tm_w ok ok2 hV hu
      have I := vy_tm_i hu
      have O1 : vz_ov O (vy_set A (3 - m) u.1) (4 - m) := by
        rcases hO with h | ⟨h1, k, h2, h3, v, h4⟩
        · exact Or.inl h
        · refine Or.inr ⟨h1, k, h2, by omega, v, ?_⟩
          rw [vy_set_lt (by omega)]
          exact h4
      have Y1 : ∀ j, i ≤ j → (O.1 ≠ -1 → ∃ y, O.2.2 = vy_p ts y ∧ y < j ∧ y < ts.length) := fun j hj t => by
        obtain ⟨y, a, b, c⟩ := hY t
        exact ⟨y, a, by omega, c⟩
      split at e
      · exact vy_ar_ov ok ok2 m _ _ _ _ e (by omega) W.2.1 O1 (Y1 _ (by omega))
      · cases e; exact ⟨O1, Y1 _ (by show i ≤ u.2.1; omega)⟩
theorem vy_am_t {hd any : Bool} {q : Nat × vy_V × vy_O × (Nat → Int) × Nat × Int × vy_V × vy_F} (ok : vy_ok ts) (ok2 : vy_ok2 ts) (ok3 : vy_ok3 ts) (hV : V.1 ≤ 8) (e : vy_am ts op hd any i V O Pd F = .inr q) : (∀ k, vz_tk (q.2.2.2.1 k)) ∧ (O.1 = -1 → vz_ov q.2.2.1 q.2.2.2.1 q.2.2.2.2.1 ∧ (q.2.2.1.1 ≠ -1 → ∃ y, q.2.2.1.2.2 = vy_p ts y ∧ y < q.1 ∧ y < ts.length)) := by
  unfold vy_am at e
  split at e
  · cases e
  split at e
  · cases e
  split at e
  · cases e
  split at e
  · cases e
  rename_i u hu
  have T1 := vy_ar_t ok ok2 ok3 4 _ _ _ _ hu hV (fun k => vz_tk0)
  have T2 : O.1 = -1 → vz_ov u.2.2.1 u.2.2.2.1 u.2.2.2.2 ∧ (u.2.2.1.1 ≠ -1 → ∃ y, u.2.2.1.2.2 = vy_p ts y ∧ y < u.1 + 1 ∧ y < ts.length) := fun h => by
    have T := vy_ar_ov ok ok2 4 _ _ _ _ hu (Nat.le_refl _) hV (Or.inl h) (fun t => absurd h t)
    refine ⟨T.1, fun t => ?_⟩
    obtain ⟨y, a, b, c⟩ := T.2 t
    exact ⟨y, a, by omega, c⟩
  split at e
  · cases e
  split at e
  · cases e; exact ⟨T1, T2⟩
  split at e
  · cases e; exact ⟨T1, T2⟩
  · cases e; exact ⟨T1, T2⟩
theorem vy_re_t {q : Nat × vy_V × Int × Int × (Nat → Int)} (ok : vy_ok ts) (ok2 : vy_ok2 ts) (ok3 : vy_ok3 ts) (hV : V.1 ≤ 8) (e : vy_re ts i V = .inr q) : (∀ k, vz_tk (q.2.2.2.2 k)) ∧ q.2.2.1 ≠ 14 ∧ q.2.2.1 ≠ 15 ∧ (q.2.2.1 = 5 → vy_opn q.2.2.2.1) ∧ vy_k ts i ≠ 0 := by
  unfold vy_re at e
  split at e
  · cases e
  rename_i a ha
  have a1 := vy_tm_t ok ok3 hV ha
  have a2 := (vy_tm_w ok ok2 hV ha).2.1
  have ak : vy_k ts i ≠ 0 := by
    intro t
    unfold vy_tm at ha
    rw [t] at ha
    simp at ha
  split at e
  · split at e
    · cases e
    rename_i b hb
    have b1 := vy_tm_t ok ok3 a2 hb
    have b2 := (vy_tm_w ok ok2 a2 hb).2.1
    split at e
    · rename_i qo
      split at e
      · cases e
      rename_i c hc
      have c1 := vy_tm_t ok ok3 b2 hc
      cases e
      exact ⟨vz_tk_set (vz_tk_set (vz_tk_set (fun _ => vz_tk0) a1) b1) c1, show (5 : Int) ≠ 14 by decide, show (5 : Int) ≠ 15 by decide, fun _ => qo, ak⟩
    · cases e
  split at e
  · rename_i qr
    split at e
    · cases e
    rename_i b hb
    have b1 := vy_tm_t ok ok3 a2 hb
    cases e
    refine ⟨vz_tk_set (vz_tk_set (fun _ => vz_tk0) a1) b1, ?_, ?_, fun t => ?_, ak⟩
    · intro t; have t : vy_k ts a.2.1 = 14 := t; omega
    · intro t; have t : vy_k ts a.2.1 = 15 := t; omega
    · have t : vy_k ts a.2.1 = 5 := t; omega
  · cases e
theorem vu_wL_mono (h : vu_wL Pd L) (M : ∀ p, p < Pd.1 → p < Pd'.1 ∧ Pd'.2.2 p = Pd.2.2 p) : vu_wL Pd' L := by
  intro j hj
  obtain ⟨a, b, c⟩ := h j hj
  refine ⟨a, fun t => ?_, c⟩
  obtain ⟨p, m, b1, b2, b3, b4⟩ := b t
  exact ⟨p, m, b1, (M p b2).1, (M p b2).2.trans b3, b4⟩
theorem vu_wL_la {kd e p : Int} {A : Nat → Int} (h : vu_wL Pd L) (h1 : ∀ k, vz_tk (A k)) (h2 : (kd = 14 ∨ kd = 15) → ∃ p m : Nat, e = p ∧ p < Pd.1 ∧ Pd.2.2 p = m ∧ 1 ≤ m ∧ m ≤ 4 ∧ ∀ k, m ≤ k → A k = 0) (h3 : kd = 5 → vy_opn e) : vu_wL Pd (vy_la L kd e p A) := by
  intro j hj
  have hj : j < L.1 + 1 := hj
  show (∀ k, vz_tk ((if j = L.1 then A else L.2.2.2.2 j) k)) ∧ (((if j = L.1 then kd else L.2.1 j) = 14 ∨ (if j = L.1 then kd else L.2.1 j) = 15) → ∃ p m : Nat, (if j = L.1 then e else L.2.2.1 j) = p ∧ p < Pd.1 ∧ Pd.2.2 p = m ∧ 1 ≤ m ∧ m ≤ 4 ∧ ∀ k, m ≤ k → (if j = L.1 then A else L.2.2.2.2 j) k = 0) ∧ ((if j = L.1 then kd else L.2.1 j) = 5 → vy_opn (if j = L.1 then e else L.2.2.1 j))
  by_cases q : j = L.1
  · rw [if_pos q, if_pos q, if_pos q]; exact ⟨h1, h2, h3⟩
  · rw [if_neg q, if_neg q, if_neg q]; exact h j (by omega)
/-- where literals stand -/
def vu_xO (ts : vy_T) (L : vy_L) (j0 i : Nat) : Prop := ∃ x : Nat → Nat, (∀ a, a < L.1 → L.2.2.2.1 a = vy_p ts (x a) ∧ j0 ≤ x a ∧ x a < i ∧ x a < ts.length) ∧ ∀ a b, a < b → b < L.1 → x a < x b
theorem vu_xO_le {j0 j : Nat} (h : vu_xO ts L j0 i) (hj : i ≤ j) : vu_xO ts L j0 j := by
  obtain ⟨x, a, b⟩ := h
  exact ⟨x, fun c hc => ⟨(a c hc).1, (a c hc).2.1, by have := (a c hc).2.2.1; omega, (a c hc).2.2.2⟩, b⟩
theorem vu_xO_la {kd e : Int} {A : Nat → Int} {j0 j : Nat} (h : vu_xO ts L j0 i) (hi : i < ts.length) (h0 : j0 ≤ i) (hj : i < j) : vu_xO ts (vy_la L kd e (vy_p ts i) A) j0 j := by
  obtain ⟨x, a, b⟩ := h
  refine ⟨fun c => if c = L.1 then i else x c, fun c hc => ?_, fun c c' h1 h2 => ?_⟩
  · have hc : c < L.1 + 1 := hc
    show (if c = L.1 then vy_p ts i else L.2.2.2.1 c) = vy_p ts (if c = L.1 then i else x c) ∧ j0 ≤ (if c = L.1 then i else x c) ∧ (if c = L.1 then i else x c) < j ∧ (if c = L.1 then i else x c) < ts.length
    by_cases q : c = L.1
    · rw [if_pos q, if_pos q]; exact ⟨rfl, h0, hj, hi⟩
    · rw [if_neg q, if_neg q]
      obtain ⟨a1, a2, a3, a4⟩ := a c (by omega)
      exact ⟨a1, a2, by omega, a4⟩
  · have h2 : c' < L.1 + 1 := h2
    show (if c = L.1 then i else x c) < (if c' = L.1 then i else x c')
    rw [if_neg (by omega)]
    by_cases q : c' = L.1
    · rw [if_pos q]; exact (a c (by omega)).2.2.1
    · rw [if_neg q]; exact b c c' h1 (by omega)
theorem vy_li_t {q : Nat × vy_V × vy_V × vy_F × vy_L × Nat} {at_ j0 : Nat} (ok : vy_ok ts) (ok2 : vy_ok2 ts) (ok3 : vy_ok3 ts) (hV : V.1 ≤ 8) (h0 : j0 ≤ i) (W : F.1 = 0 → vu_wL Pd L) (X : vu_xO ts L j0 i) (e : vy_li ts op i V O Pd F L at_ = .inr q) : (q.2.2.2.1.1 = 0 → vu_wL q.2.2.1 q.2.2.2.2.1) ∧ vu_xO ts q.2.2.2.2.1 j0 q.1 := by
  have I := vy_li_i e
  unfold vy_li at e
  split at e
  · rename_i q0
    split at e
    · cases e
    rename_i u hu
    have w := vy_am_w hu
    have t := vy_am_t ok ok2 ok3 hV hu
    cases e
    refine ⟨fun z => vu_wL_la (vu_wL_mono (W (w.2.2.1 z)) w.2.2.2.1) t.1 (fun _ => ?_) (fun t => absurd t (by decide)), vu_xO_la X (vy_in (by omega)) h0 I⟩
    obtain ⟨p, p1, p2, p3⟩ := w.2.2.2.2 z
    exact ⟨p, u.2.2.2.2.1, p2, p1, p3, w.1.1, w.1.2, w.2.1⟩
  split at e
  · rename_i q0
    split at e
    · cases e
    split at e
    · cases e
    rename_i u hu
    have w := vy_am_w hu
    have t := vy_am_t ok ok2 ok3 hV hu
    cases e
    refine ⟨fun z => vu_wL_la (vu_wL_mono (W (w.2.2.1 z)) w.2.2.2.1) t.1 (fun _ => ?_) (fun t => absurd t (by decide)), vu_xO_la X (vy_in (by omega)) h0 I⟩
    obtain ⟨p, p1, p2, p3⟩ := w.2.2.2.2 z
    exact ⟨p, u.2.2.2.2.1, p2, p1, p3, w.1.1, w.1.2, w.2.1⟩
  · split at e
    · cases e
    rename_i u hu
    have t := vy_re_t ok ok2 ok3 hV hu
    cases e
    exact ⟨fun z => vu_wL_la (W z) t.1 (fun z => absurd z (by have := t.2.1; have := t.2.2.1; omega)) t.2.2.2.1, vu_xO_la X (vy_in t.2.2.2.2) h0 I⟩
theorem vy_bo_t {j0 : Nat} (ok : vy_ok ts) (ok2 : vy_ok2 ts) (ok3 : vy_ok3 ts) : ∀ (m i : Nat) (V Pd : vy_V) (F : vy_F) (L : vy_L) (at_ : Nat) {q : Nat × vy_V × vy_V × vy_F × vy_L × Nat}, V.1 ≤ 8 → j0 ≤ i → vz_wf O.1 V.1 L → (F.1 = 0 → vu_wL Pd L) → vu_xO ts L j0 i → vy_bo ts op O m i V Pd F L at_ = .inr q → (q.2.2.2.1.1 = 0 → vu_wL q.2.2.1 q.2.2.2.2.1) ∧ vu_xO ts q.2.2.2.2.1 j0 q.1 ∧ L.1 < q.2.2.2.2.1.1 ∧ q.2.2.2.2.1.1 ≤ L.1 + m
  | 0, i, V, Pd, F, L, at_, q, hV, h0, Z, W, X, e => by cases e
  | m + 1, i, V, Pd, F, L, at_, q, hV, h0, Z, W, X, e => by
    unfold vy_bo at e
    split at e
    · cases e
    rename_i u hu
    have t := vy_li_t ok ok2 ok3 hV h0 W X hu
    have w := vy_li_w ok ok2 hV Z hu
    have l := vy_li_L hu
    have I := vy_li_i hu
    split at e
    · have := vy_bo_t ok ok2 ok3 m _ _ _ _ _ _ w.2.1 (by omega) w.2.2 t.1 (vu_xO_le t.2 (Nat.le_succ _)) e
      exact ⟨this.1, this.2.1, by omega, by omega⟩
    · cases e; exact ⟨t.1, t.2, by omega, by omega⟩
/-- what a clause comes to is well-formed -/
theorem vu_cs_w {j : Nat} {K : (Int × (Nat → Int)) ⊕ vu_R} (ok : vy_ok ts) (ok2 : vy_ok2 ts) (ok3 : vy_ok3 ts) (e : vu_cs ts n i Pd F = .inr (j, Pd', F', K)) : i + 5 ≤ j ∧ j ≤ ts.length ∧ vu_mo Pd F Pd' F' ∧ (F'.1 = 0 → vu_wK Pd' K) := by
  unfold vu_cs at e
  split at e
  · cases e
  rename_i q hq
  have Qi := vy_am_i hq
  have Qw := vy_am_w hq
  have Qm := vy_am_m hq
  have Qv := vy_am_v ok ok2 (show vu_V0.1 ≤ 8 by decide) hq
  have Qt := vy_am_t ok ok2 ok3 (show vu_V0.1 ≤ 8 by decide) hq
  have QO := Qt.2 rfl
  have Qp := vy_am_p ok vz_pr0 hq
  split at e
  · rename_i k46
    split at e
    · cases e
    rename_i ff
    cases e
    refine ⟨by omega, vy_in (by omega), Qm, fun z => ?_⟩
    obtain ⟨p, p1, p2, p3⟩ := Qw.2.2.2.2 z
    have ff : vy_ff q.2.1 q.2.2.1 = -1 := Classical.not_not.mp ff
    have V0 : q.2.1.1 = 0 := by
      by_cases t : q.2.1.1 = 0
      · exact t
      · exfalso
        have := Qp.1 0 (by omega)
        unfold vy_ff at ff
        split at ff
        · rename_i t2
          have := Qp.2 t2.1
          omega
        · first
          | omega
          | (rw [if_neg t] at ff; omega)
    show vu_wA _ _
    refine ⟨p, q.2.2.2.2.1, p2, p1, p3, Qw.1.1, Qw.1.2, fun k => ?_, fun k hk => Qw.2.1 k hk⟩
    show vz_va (q.2.2.2.1 k)
    rcases Qt.1 k with h | ⟨v, h⟩ | h
    · exact h
    · have := (Qv.2.2 k).1 v h; omega
    · exact absurd h ((Qv.2.2 k).2 rfl)
  split at e
  · cases e
  rename_i k10
  split at e
  · cases e
  split at e
  · cases e
  rename_i u hu
  have Ui := vy_bo_i 6 (q.1 + 1) _ _ _ _ _ hu
  have Um := vy_bo_m 6 (q.1 + 1) _ _ _ _ _ hu
  have Z0 : vz_wf q.2.2.1.1 q.2.1.1 vu_L0 := fun j hj => absurd (show j < 0 from hj) (by omega)
  have Uw := vy_bo_w ok ok2 6 (q.1 + 1) _ _ _ _ _ Qv.2.1 Z0 hu
  have Ut := vy_bo_t (j0 := q.1 + 1) ok ok2 ok3 6 (q.1 + 1) _ _ _ _ _ Qv.2.1 (Nat.le_refl _) Z0 (fun _ j hj => absurd (show j < 0 from hj) (by omega)) ⟨fun _ => 0, fun a ha => absurd (show a < 0 from ha) (by omega), fun a b _ hb => absurd (show b < 0 from hb) (by omega)⟩ hu
  split at e
  · cases e
  rename_i k46
  cases e
  refine ⟨by omega, vy_in (by omega), vu_mo_trans (vu_mo_trans Qm Um) ⟨fun t => (vz_un_0 _ t).1, fun p hp => ⟨hp, rfl⟩⟩, fun z => ?_⟩
  obtain ⟨z1, z2⟩ := vz_un_0 _ z
  obtain ⟨p, p1, p2, p3⟩ := Qw.2.2.2.2 (Um.1 z1)
  have l6 : u.2.2.2.2.1.1 ≤ 6 := by have := Ut.2.2.2; have t0 : vu_L0.1 = 0 := rfl; omega
  show vu_wR _ _
  refine ⟨Uw.2.2, Uw.2.1, ⟨by show 1 ≤ u.2.2.2.2.1.1; omega, l6⟩, fun v hv => vz_s_iff.mp (z2 v hv), fun k => ⟨fun i hi => Nat.lt_of_lt_of_le ((Qv.2.2 k).1 i hi) Uw.1, (Qv.2.2 k).2⟩, Qt.1, ⟨p, q.2.2.2.2.1, p2, (Um.2 p p1).1, (Um.2 p p1).2.trans p3, Qw.1.1, Qw.1.2, Qw.2.1, QO.1⟩, Ut.1 z1, vy_p ts u.1, ?_⟩
  obtain ⟨x, X1, X2⟩ := Ut.2.1
  have hu1 : u.1 < ts.length := vy_in (by omega)
  refine ⟨fun a b h1 h2 => ?_, fun a ha => ⟨?_, ?_⟩, fun t => ⟨?_, fun a ha => ?_⟩⟩
  · rw [(X1 a (Nat.lt_trans h1 h2)).1, (X1 b h2).1]
    exact ok.2.2.2.2.1 _ _ (X2 a b h1 h2) (X1 b h2).2.2.2
  · rw [(X1 a ha).1]
    exact (vy_p_r ok _).1
  · rw [(X1 a ha).1]
    exact ok.2.2.2.2.1 _ _ (X1 a ha).2.2.1 hu1
  · exact (Qp.2 t).1
  · obtain ⟨y, y1, y2, y3⟩ := QO.2 t
    have := (X1 a ha).2.1
    show q.2.2.1.2.2 < _
    rw [(X1 a ha).1, y1]
    exact ok.2.2.2.2.1 _ _ (by omega) (X1 a ha).2.2.2
theorem vu_cs_i {q : Nat × vy_V × vy_F × ((Int × (Nat → Int)) ⊕ vu_R)} (e : vu_cs ts n i Pd F = .inr q) : i + 5 ≤ q.1 := by
  unfold vu_cs at e
  split at e
  · cases e
  rename_i u hu
  have Qi := vy_am_i hu
  split at e
  · split at e
    · cases e
    · cases e; show i + 5 ≤ u.1 + 1; omega
  split at e
  · cases e
  split at e
  · cases e
  split at e
  · cases e
  rename_i w hw
  have Ui := vy_bo_i 6 (u.1 + 1) _ _ _ _ _ hw
  split at e
  · cases e
  · cases e; show i + 5 ≤ w.1 + 1; omega
end
