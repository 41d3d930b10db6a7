/-! What is read is well formed -/
def vy_ok2 (ts : vy_T) : Prop := ∀ j, j < ts.length → vy_k ts j = 2 → 72057594037927936 ≤ vy_v ts j ∧ vy_v ts j < 144115188075855872
def vz_aw (n : Nat) (any : Bool) (A : Nat → Int) : Prop := ∀ k, (∀ i, vz_v (A k) i → i < n) ∧ (any = false → A k ≠ 288230376151711744)
def vz_lw (O1 : Int) (n : Nat) (kd : Int) (A : Nat → Int) : Prop := (kd = 14 ∨ kd = 15 ∨ kd = 5 ∨ vy_rel kd) ∧ (kd = 5 → A 3 = 0 ∧ ∃ i, vz_v (A 0) i) ∧ (vy_rel kd → A 2 = 0 ∧ A 3 = 0) ∧ (∀ k, k < 4 → ∀ i, vz_v (A k) i → i < n) ∧ ((kd = 5 ∨ vy_rel kd ∨ (kd = 14 ∧ O1 ≠ -1)) → ∀ k, k < 4 → A k ≠ 288230376151711744)
def vz_wf (O1 : Int) (n : Nat) (L : vy_L) : Prop := ∀ j, j < L.1 → vz_lw O1 n (L.2.1 j) (L.2.2.2.2 j)
section
variable {i : Nat} {ts : vy_T} {V Pd : vy_V} {O : vy_O} {F : vy_F} {L : vy_L} {op : Bool} {at_ : Nat}
theorem vy_in (h : vy_k ts i ≠ 0) : i < ts.length := by
  by_cases q : i < ts.length
  · exact q
  · exfalso
    apply h
    unfold vy_k
    rw [List.getD_eq_getElem?_getD, List.getElem?_eq_none (by omega)]
    rfl
theorem vz_aw_set {n m : Nat} {any : Bool} {A : Nat → Int} {k0 : Nat} {t : Int} (h : vz_aw n any A) (hm : n ≤ m) (h1 : ∀ i, vz_v t i → i < m) (h2 : any = false → t ≠ 288230376151711744) : vz_aw m any (vy_set A k0 t) := by
  intro k
  by_cases q : k = k0
  · rw [q, vy_set_eq]; exact ⟨h1, h2⟩
  · rw [vy_set_lt q]; exact ⟨fun i hi => Nat.lt_of_lt_of_le ((h k).1 i hi) hm, (h k).2⟩
theorem vz_aw_0 {n : Nat} {any : Bool} : vz_aw n any (fun _ => 0) := fun k => ⟨fun i hi => by have t : (0 : Int) = 144115188075855872 + (i : Int) := hi.2; omega, fun _ => by show (0 : Int) ≠ 288230376151711744; decide⟩
theorem vy_vx_le {x : Int} : vy_vx V x ≤ V.1 := by
  have := (vy_ix_at (f := V.2.1) (x := x) V.1 0).2.2.1
  unfold vy_vx
  omega
theorem vy_tm_w {any : Bool} {q : Int × Nat × vy_V} (ok : vy_ok ts) (ok2 : vy_ok2 ts) (hV : V.1 ≤ 8) (e : vy_tm ts any i V = .inr q) : V.1 ≤ q.2.2.1 ∧ q.2.2.1 ≤ 8 ∧ (∀ j, vz_v q.1 j → j < q.2.2.1) ∧ (any = false → q.1 ≠ 288230376151711744) ∧ (vy_k ts i = 3 → ∃ j, vz_v q.1 j) := by
  unfold vy_tm at e
  split at e
  · rename_i c
    split at e
    · rename_i c1
      have hj := ok.2.2.2.2.2 (i + 1) (vy_in (by omega)) c1
      cases e
      exact ⟨Nat.le_refl _, hV, fun j hj2 => by have := hj2.2; have : (-(vy_v ts (i + 1))) = 144115188075855872 + (j : Int) := this; omega, fun _ => by show -(vy_v ts (i + 1)) ≠ _; omega, fun t => by omega⟩
    · cases e
  split at e
  · rename_i c0 c
    cases e
    have hv : vy_v ts i < 144115188075855872 := by
      rcases c with c | c
      · have := ok.2.2.2.2.2 i (vy_in (by omega)) c; omega
      · have := ok2 i (vy_in (by omega)) c; omega
    exact ⟨Nat.le_refl _, hV, fun j hj2 => by have : vy_v ts i = 144115188075855872 + (j : Int) := hj2.2; omega, fun _ => by show vy_v ts i ≠ _; omega, fun t => by omega⟩
  split at e
  · rename_i c0 c1 c
    split at e
    · rename_i c2
      cases e
      refine ⟨Nat.le_refl _, hV, fun j hj2 => ?_, fun _ => ?_, fun _ => ⟨vy_vx V (vy_v ts i), by omega, rfl⟩⟩
      · have : 144115188075855872 + (vy_vx V (vy_v ts i) : Int) = 144115188075855872 + (j : Int) := hj2.2
        show j < V.1
        omega
      · show 144115188075855872 + (vy_vx V (vy_v ts i) : Int) ≠ 288230376151711744
        omega
    split at e
    · rename_i c3
      cases e
      refine ⟨?_, ?_, fun j hj2 => ?_, fun _ => ?_, fun _ => ⟨V.1, by omega, rfl⟩⟩
      · show V.1 ≤ V.1 + 1; omega
      · show V.1 + 1 ≤ 8; omega
      · have : 144115188075855872 + (V.1 : Int) = 144115188075855872 + (j : Int) := hj2.2
        show j < V.1 + 1
        omega
      · show 144115188075855872 + (V.1 : Int) ≠ 288230376151711744
        omega
    · cases e
  split at e
  · rename_i c0 c1 c2 c
    cases e
    refine ⟨Nat.le_refl _, hV, fun j hj2 => ?_, fun t => ?_, fun t => absurd t c2⟩
    · have h1 : (288230376151711744 : Int) = 144115188075855872 + (j : Int) := hj2.2
      have h2 := hj2.1
      omega
    · exact absurd (c.1.symm.trans t) (by decide)
  · cases e
theorem vy_ar_w {hd any : Bool} (ok : vy_ok ts) (ok2 : vy_ok2 ts) : ∀ (m i : Nat) (V : vy_V) (O : vy_O) (A : Nat → Int) {q : Nat × vy_V × vy_O × (Nat → Int) × Nat}, vy_ar ts hd any m i V O A = .inr q → V.1 ≤ 8 → vz_aw V.1 any A → V.1 ≤ q.2.1.1 ∧ q.2.1.1 ≤ 8 ∧ vz_aw q.2.1.1 any q.2.2.2.1
  | 0, i, V, O, A, q, e, hV, hA => by cases e
  | m + 1, i, V, O, A, q, e, hV, hA => by
    unfold vy_ar at e
    split at e
    · split at e
      · cases e
      split at e
      · cases e
      split at e
      · cases e
      split at e
      · cases e
      rename_i u hu
      obtain ⟨a1, a2, a3, a4, -⟩ := vy_tm_w ok ok2 hV hu
      have N := vz_aw_set (k0 := 3 - m) hA a1 a3 a4
      split at e
      · cases e
      split at e
      · have := vy_ar_w ok ok2 m _ _ _ _ e a2 N
        exact ⟨Nat.le_trans a1 this.1, this.2⟩
      · cases e; exact ⟨a1, a2, N⟩
    · split at e
      · cases e
      rename_i u hu
      obtain ⟨a1, a2, a3, a4, -⟩ := vy_tm_w ok ok2 hV hu
      have N := vz_aw_set (k0 := 3 - m) hA a1 a3 a4
      split at e
      · have := vy_ar_w ok ok2 m _ _ _ _ e a2 N
        exact ⟨Nat.le_trans a1 this.1, this.2⟩
      · cases e; exact ⟨a1, a2, N⟩
theorem vy_am_v {hd any : Bool} {q : Nat × vy_V × vy_O × (Nat → Int) × Nat × Int × vy_V × vy_F} (ok : vy_ok ts) (ok2 : vy_ok2 ts) (hV : V.1 ≤ 8) (e : vy_am ts op hd any i V O Pd F = .inr q) : V.1 ≤ q.2.1.1 ∧ q.2.1.1 ≤ 8 ∧ vz_aw q.2.1.1 any q.2.2.2.1 := by
  unfold vy_am at e
  split at e
  · cases e
  split at e
  · cases e
  split at e
  · cases e
  split at e
  · cases e
  rename_i u hu
  have := vy_ar_w ok ok2 4 (i + 2) V O (fun _ => 0) hu hV vz_aw_0
  split at e
  · cases e
  split at e
  · cases e; exact this
  split at e
  · cases e; exact this
  · cases e; exact this
theorem vy_re_w {q : Nat × vy_V × Int × Int × (Nat → Int)} {O1 : Int} (ok : vy_ok ts) (ok2 : vy_ok2 ts) (hV : V.1 ≤ 8) (e : vy_re ts i V = .inr q) : V.1 ≤ q.2.1.1 ∧ q.2.1.1 ≤ 8 ∧ vz_lw O1 q.2.1.1 q.2.2.1 q.2.2.2.2 := by
  unfold vy_re at e
  split at e
  · cases e
  rename_i u hu
  obtain ⟨a1, a2, a3, a4, a5⟩ := vy_tm_w ok ok2 hV hu
  have N := vz_aw_set (k0 := 0) (vz_aw_0 (n := V.1) (any := false)) a1 a3 a4
  split at e
  · rename_i c
    split at e
    · cases e
    rename_i w hw
    obtain ⟨b1, b2, b3, b4, -⟩ := vy_tm_w ok ok2 a2 hw
    have N2 := vz_aw_set (k0 := 1) N b1 b3 b4
    split at e
    · split at e
      · cases e
      rename_i z hz
      obtain ⟨c1, c2, c3, c4, -⟩ := vy_tm_w ok ok2 b2 hz
      have N3 := vz_aw_set (k0 := 2) N2 c1 c3 c4
      cases e
      refine ⟨by show V.1 ≤ z.2.2.1; omega, c2, Or.inr (Or.inr (Or.inl rfl)), fun _ => ⟨rfl, ?_⟩, fun t => ?_, fun k _ => (N3 k).1, fun _ k _ => (N3 k).2 rfl⟩
      · exact a5 c.1
      · exact absurd t (by show ¬ vy_rel 5; omega)
    · cases e
  split at e
  · rename_i c0 c
    split at e
    · cases e
    rename_i w hw
    obtain ⟨b1, b2, b3, b4, -⟩ := vy_tm_w ok ok2 a2 hw
    have N2 := vz_aw_set (k0 := 1) N b1 b3 b4
    cases e
    refine ⟨by show V.1 ≤ w.2.2.1; omega, b2, Or.inr (Or.inr (Or.inr c)), fun t => ?_, fun t => ⟨rfl, rfl⟩, fun k _ => (N2 k).1, fun _ k _ => (N2 k).2 rfl⟩
    have t : vy_k ts u.2.1 = 5 := t
    omega
  · cases e
theorem vz_wf_la {O1 kd e p : Int} {n m : Nat} {A : Nat → Int} (h : vz_wf O1 n L) (hm : n ≤ m) (h1 : vz_lw O1 m kd A) : vz_wf O1 m (vy_la L kd e p A) := by
  intro j hj
  have hj : j < L.1 + 1 := hj
  show vz_lw O1 m (if j = L.1 then kd else L.2.1 j) (if j = L.1 then A else L.2.2.2.2 j)
  by_cases q : j = L.1
  · rw [if_pos q, if_pos q]; exact h1
  · rw [if_neg q, if_neg q]
    obtain ⟨a1, a2, a3, a4, a5⟩ := h j (by omega)
    exact ⟨a1, a2, a3, fun k hk i hi => Nat.lt_of_lt_of_le (a4 k hk i hi) hm, a5⟩
theorem vz_lw_14 {O1 : Int} {n : Nat} {A : Nat → Int} {any : Bool} (h : vz_aw n any A) (ha : O1 ≠ -1 → any = false) : vz_lw O1 n 14 A := ⟨Or.inl rfl, fun t => absurd t (by decide), fun t => absurd t (by omega), fun k _ => (h k).1, fun t k _ => (h k).2 (ha (by rcases t with t | t | t; omega; omega; exact t.2))⟩
theorem vz_lw_15 {O1 : Int} {n : Nat} {A : Nat → Int} {any : Bool} (h : vz_aw n any A) : vz_lw O1 n 15 A := ⟨Or.inr (Or.inl rfl), fun t => absurd t (by decide), fun t => absurd t (by omega), fun k _ => (h k).1, fun t k _ => by exfalso; omega⟩
theorem vy_li_w {q : Nat × vy_V × vy_V × vy_F × vy_L × Nat} (ok : vy_ok ts) (ok2 : vy_ok2 ts) (hV : V.1 ≤ 8) (W : vz_wf O.1 V.1 L) (e : vy_li ts op i V O Pd F L at_ = .inr q) : V.1 ≤ q.2.1.1 ∧ q.2.1.1 ≤ 8 ∧ vz_wf O.1 q.2.1.1 q.2.2.2.2.1 := by
  unfold vy_li at e
  split at e
  · split at e
    · cases e
    rename_i u hu
    obtain ⟨a1, a2, a3⟩ := vy_am_v ok ok2 hV hu
    cases e
    exact ⟨a1, a2, vz_wf_la W a1 (vz_lw_15 a3)⟩
  split at e
  · split at e
    · cases e
    split at e
    · cases e
    rename_i u hu
    obtain ⟨a1, a2, a3⟩ := vy_am_v ok ok2 hV hu
    cases e
    exact ⟨a1, a2, vz_wf_la W a1 (vz_lw_14 a3 (fun t => decide_eq_false t))⟩
  · split at e
    · cases e
    rename_i u hu
    obtain ⟨a1, a2, a3⟩ := vy_re_w (O1 := O.1) ok ok2 hV hu
    cases e
    exact ⟨a1, a2, vz_wf_la W a1 a3⟩
theorem vy_bo_w (ok : vy_ok ts) (ok2 : vy_ok2 ts) : ∀ (m i : Nat) (V Pd : vy_V) (F : vy_F) (L : vy_L) (at_ : Nat) {q : Nat × vy_V × vy_V × vy_F × vy_L × Nat}, V.1 ≤ 8 → vz_wf O.1 V.1 L → vy_bo ts op O m i V Pd F L at_ = .inr q → V.1 ≤ q.2.1.1 ∧ q.2.1.1 ≤ 8 ∧ vz_wf O.1 q.2.1.1 q.2.2.2.2.1
  | 0, i, V, Pd, F, L, at_, q, hV, W, e => by cases e
  | m + 1, i, V, Pd, F, L, at_, q, hV, W, e => by
    unfold vy_bo at e
    split at e
    · cases e
    rename_i u hu
    obtain ⟨a1, a2, a3⟩ := vy_li_w ok ok2 hV W hu
    split at e
    · have := vy_bo_w ok ok2 m _ _ _ _ _ _ a2 a3 e
      exact ⟨Nat.le_trans a1 this.1, this.2⟩
    · cases e; exact ⟨a1, a2, a3⟩
end
