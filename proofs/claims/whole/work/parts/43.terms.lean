/-! Reading terms -/
abbrev vy_T : Type := List (Int × Int × Int)
def vy_k (ts : vy_T) (i : Nat) : Int := (ts.getD i (0, 0, 0)).1
def vy_p (ts : vy_T) (i : Nat) : Int := (ts.getD i (0, 0, 0)).2.1
def vy_v (ts : vy_T) (i : Nat) : Int := (ts.getD i (0, 0, 0)).2.2
/-- tokens end with the end, and nowhere else -/
def vy_ok (ts : vy_T) : Prop := 1 ≤ ts.length ∧ ts.length ≤ 601 ∧ (∀ j, j < ts.length → (vy_k ts j = 0 ↔ j + 1 = ts.length)) ∧ (∀ j, j < ts.length → 0 ≤ vy_p ts j ∧ vy_p ts j ≤ 600) ∧ (∀ i j, i < j → j < ts.length → vy_p ts i < vy_p ts j) ∧ (∀ j, j < ts.length → vy_k ts j = 4 → 0 ≤ vy_v ts j ∧ vy_v ts j < 1000000000)
theorem vy_nx {ts : vy_T} (ok : vy_ok ts) {i : Nat} (hi : i < ts.length) (hk : vy_k ts i ≠ 0) : i + 1 < ts.length := by
  have := ok.2.2.1 i hi
  by_cases q : i + 1 = ts.length
  · exact absurd (this.mpr q) hk
  · omega
/-- names: how many, which, where first -/
abbrev vy_V : Type := Nat × (Nat → Int) × (Nat → Int)
def vy_ix (f : Nat → Int) (x : Int) : Nat → Nat → Nat
  | 0, i => i
  | m + 1, i => if f i = x then i else vy_ix f x m (i + 1)
def vy_vx (V : vy_V) (x : Int) : Nat := vy_ix V.2.1 x V.1 0
theorem vy_ix_at {f : Nat → Int} {x : Int} : ∀ (m i : Nat), (∀ j, i ≤ j → j < vy_ix f x m i → f j ≠ x) ∧ i ≤ vy_ix f x m i ∧ vy_ix f x m i ≤ i + m ∧ (vy_ix f x m i < i + m → f (vy_ix f x m i) = x)
  | 0, i => ⟨fun j h1 h2 => absurd (show j < i from h2) (by omega), Nat.le_refl _, Nat.le_refl _, fun h => absurd (show i < i + 0 from h) (by omega)⟩
  | m + 1, i => by
    show (∀ j, i ≤ j → j < (if f i = x then i else vy_ix f x m (i + 1)) → f j ≠ x) ∧ i ≤ (if f i = x then i else vy_ix f x m (i + 1)) ∧ (if f i = x then i else vy_ix f x m (i + 1)) ≤ i + (m + 1) ∧ ((if f i = x then i else vy_ix f x m (i + 1)) < i + (m + 1) → f (if f i = x then i else vy_ix f x m (i + 1)) = x)
    by_cases q : f i = x
    · rw [if_pos q]
      exact ⟨fun j h1 h2 => by omega, Nat.le_refl _, by omega, fun _ => q⟩
    · rw [if_neg q]
      obtain ⟨a1, a2, a3, a4⟩ := vy_ix_at (f := f) (x := x) m (i + 1)
      refine ⟨fun j h1 h2 => ?_, by omega, by omega, fun h => a4 (by omega)⟩
      by_cases q2 : j = i
      · rw [q2]; exact q
      · exact a1 j (by omega) h2
/-- the index is where a search stops -/
theorem vy_ix_eq {f : Nat → Int} {x : Int} {n k : Nat} (h1 : ∀ j, j < k → f j ≠ x) (h2 : k < n → f k = x) (h3 : k ≤ n) : vy_ix f x n 0 = k := by
  obtain ⟨a1, a2, a3, a4⟩ := vy_ix_at (f := f) (x := x) n 0
  rcases Nat.lt_trichotomy (vy_ix f x n 0) k with q | q | q
  · exact absurd (a4 (by omega)) (h1 _ q)
  · exact q
  · exact absurd (h2 (by omega)) (a1 k (by omega) q)
def vy_va (V : vy_V) (x p : Int) : vy_V := (V.1 + 1, fun v => if v = V.1 then x else V.2.1 v, fun v => if v = V.1 then p else V.2.2 v)
/-- a term: where it is refused, or the term, the next token, the variables -/
def vy_tm (ts : vy_T) (any : Bool) (i : Nat) (V : vy_V) : Int ⊕ (Int × Nat × vy_V) :=
  if vy_k ts i = 45 then (if vy_k ts (i + 1) = 4 then .inr (-(vy_v ts (i + 1)), i + 2, V) else .inl (vy_p ts (i + 1)))
  else if vy_k ts i = 4 ∨ vy_k ts i = 2 then .inr (vy_v ts i, i + 1, V)
  else if vy_k ts i = 3 then (if vy_vx V (vy_v ts i) < V.1 then .inr (144115188075855872 + (vy_vx V (vy_v ts i) : Int), i + 1, V) else if V.1 < 8 then .inr (144115188075855872 + (V.1 : Int), i + 1, vy_va V (vy_v ts i) (vy_p ts i)) else .inl (vy_p ts i))
  else if any = true ∧ vy_k ts i = 95 then .inr (288230376151711744, i + 1, V)
  else .inl (vy_p ts i)
/-- the class's reader at a token -/
def vy_cb (h : ve_H) (ts : vy_T) (o i : Nat) (V : vy_V) : Prop := vt_kc h 0 ts ∧ vx_J h 7 9 = i ∧ i < ts.length ∧ ve_R h 7 8 = some o ∧ vx_o 1 625 7 o ∧ vx_J h o 5 = V.1 ∧ V.1 ≤ 8 ∧ ∀ v, v < V.1 → vx_K h 19 v = V.2.1 v ∧ vx_J h 20 v = V.2.2 v
theorem vy_on {o : Nat} (ho : vx_o 1 625 7 o) : o ≠ 1 ∧ o ≠ 2 ∧ o ≠ 3 ∧ o ≠ 4 ∧ o ≠ 5 ∧ o ≠ 6 ∧ o ≠ 7 ∧ o ≠ 17 ∧ o ≠ 18 ∧ o ≠ 19 ∧ o ≠ 20 := by
  have k := ho.2
  refine ⟨?_, ?_, ?_, ?_, ?_, ?_, ?_, ?_, ?_, ?_, ?_⟩ <;> (rintro rfl; exact absurd k (by decide +kernel))
def vy_fx (h h1 : ve_H) : Prop := vx_J h1 7 11 = vx_J h 7 11 ∧ vx_J h1 7 12 = vx_J h 7 12
def vy_bad (p : Int) (h : ve_H) : Prop := vx_J h 7 11 = 1 ∧ vx_J h 7 12 = p
section
variable {d i o : Nat} {h : ve_H} {ts : vy_T} {V : vy_V} {x y : Int}
theorem vy_kc (K : vt_kc h 0 ts) (hi : i < ts.length) : vx_J h 4 i = vy_k ts i ∧ vx_J h 5 i = vy_p ts i ∧ vx_K h 6 i = vy_v ts i := by
  have := K i hi
  rw [Nat.zero_add] at this
  exact this
theorem vy_kc_fr {h1 : ve_H} {S : Nat → Nat → Prop} (K : vt_kc h 0 ts) (f : vx_fr S h h1) (hs : ∀ k, ¬ S 4 k ∧ ¬ S 5 k ∧ ¬ S 6 k) : vt_kc h1 0 ts := by
  intro j hj
  rw [vx_fr_J f (hs _).1, vx_fr_J f (hs _).2.1, vx_fr_K f (hs _).2.2]
  exact K j hj
theorem vc_162 (hT : vx_T 1 625 h) (ok : vy_ok ts) (B : vy_cb h ts o i V) : vx_CI d 162 [.ref 7] h (fun r h1 => h1 = h ∧ r = vy_k ts i) := by
  have hl := ok.2.1
  obtain ⟨b1, b2, b3, -⟩ := B
  refine vg_162 hT ?_
  rw [b2, Int.toNat_natCast]
  exact ⟨by omega, rfl, (vy_kc b1 b3).1⟩
theorem vc_163 (hT : vx_T 1 625 h) (ok : vy_ok ts) (B : vy_cb h ts o i V) : vx_CI d 163 [.ref 7] h (fun r h1 => h1 = h ∧ r = vy_p ts i) := by
  have hl := ok.2.1
  obtain ⟨b1, b2, b3, -⟩ := B
  refine vg_163 hT ?_
  rw [b2, Int.toNat_natCast]
  exact ⟨by omega, rfl, (vy_kc b1 b3).2.1⟩
theorem vy_cb_at {h1 : ve_H} {j : Nat} (B : vy_cb h ts o i V) (e : h1 = vx_sJ h 7 9 y) (hy : y = j) (hj : j < ts.length) (hr : vx_rI y) : vy_cb h1 ts o j V := by
  obtain ⟨b1, b2, b3, b4, b5, b6, b7, b8⟩ := B
  have n := vy_on b5
  have f : vx_fr (fun a k => a = 7 ∧ k = 9) h h1 := vx_fr_sJ vx_fr_refl e ⟨rfl, rfl⟩
  refine ⟨vy_kc_fr b1 f (fun k => by omega), by rw [e, vx_J_eq hr, hy], hj, (vx_fr_R f (by omega)).trans b4, b5, (vx_fr_J f (by omega)).trans b6, b7, fun v hv => ⟨(vx_fr_K f (by omega)).trans (b8 v hv).1, (vx_fr_J f (by omega)).trans (b8 v hv).2⟩⟩
theorem vc_164 (hT : vx_T 1 625 h) (ok : vy_ok ts) (B : vy_cb h ts o i V) (hx : vx_rI x) (x0 : x ≠ 0) : vx_CI d 164 [.ref 7, .int (vx_i x)] h (fun r h1 => (r = 1 ∧ vy_k ts i = x ∧ h1 = vx_sJ h 7 9 ((i : Int) + 1) ∧ vy_cb h1 ts o (i + 1) V) ∨ (r = 0 ∧ vy_k ts i ≠ x ∧ h1 = h)) := by
  have hl := ok.2.1
  have hi := B.2.2.1
  refine vg_164 hT ?_
  rw [B.2.1, Int.toNat_natCast, (vy_kc B.1 hi).1]
  refine ⟨by omega, hx, fun q h4 e4 T4 => Or.inl ⟨rfl, q, e4, vy_cb_at B e4 (by omega) (vy_nx ok hi (by omega)) (by omega)⟩, fun q => Or.inr ⟨rfl, q, rfl⟩⟩
theorem vc_166 (hT : vx_T 1 625 h) (hx : vx_rI x) : vx_CI d 166 [.ref 7, .int (vx_i x)] h (fun r h1 => r = 0 ∧ vx_fr (fun a k => a = 7 ∧ (k = 11 ∨ k = 12)) h h1 ∧ vy_bad x h1) := by
  refine vg_166 hT (fun h1 e1 T1 h2 e2 T2 => ⟨rfl, vx_fr_sJ (vx_fr_sJ vx_fr_refl e1 (by omega)) e2 (by omega), ?_, ?_⟩)
  · rw [e2, vx_J_ne (by omega), e1, vx_J_eq (by omega)]
  · rw [e2, vx_J_eq hx]
/-- refused at the token where the reader stands -/
theorem vc_ref (hT : vx_T 1 625 h) (ok : vy_ok ts) (B : vy_cb h ts o i V) {P : Int → ve_H → Prop} (p : ∀ h1, vx_fr (fun a k => a = 7 ∧ (k = 11 ∨ k = 12)) h h1 → vy_bad (vy_p ts i) h1 → P 0 h1) : vx_CI d 163 [.ref 7] h (fun r8 h8 => vx_T 1 625 h8 → vx_CI d 166 [.ref 7, .int (vx_i r8)] h8 (fun r9 h9 => vx_T 1 625 h9 → (r9 = 0 ∨ r9 = 1) ∧ P r9 h9)) := by
  have hp := ok.2.2.2.1 i B.2.2.1
  refine vx_CI_mono (vc_163 hT ok B) ?_
  rintro r8 h8 _ ⟨rfl, rfl⟩ _
  refine vx_CI_mono (vc_166 hT (by omega)) ?_
  rintro r9 h9 _ ⟨rfl, f, b⟩ _
  exact ⟨Or.inl rfl, p h9 f b⟩
theorem vc_165 (hT : vx_T 1 625 h) (ok : vy_ok ts) (B : vy_cb h ts o i V) (hx : vx_rI x) (x0 : x ≠ 0) : vx_CI (d + 1) 165 [.ref 7, .int (vx_i x)] h (fun r h1 => (r = 1 ∧ vy_k ts i = x ∧ h1 = vx_sJ h 7 9 ((i : Int) + 1) ∧ vy_cb h1 ts o (i + 1) V) ∨ (r = 0 ∧ vy_k ts i ≠ x ∧ vx_fr (fun a k => a = 7 ∧ (k = 11 ∨ k = 12)) h h1 ∧ vy_bad (vy_p ts i) h1)) := by
  have hl := ok.2.1
  have hi := B.2.2.1
  have hp := ok.2.2.2.1 i hi
  refine vg_165 hT (vx_CI_mono (vc_164 hT ok B hx x0) ?_)
  rintro r1 h1 _ (⟨rfl, q, e1, b⟩ | ⟨rfl, q, rfl⟩) _
  · exact ⟨fun _ => Or.inl ⟨rfl, q, e1, b⟩, fun q => absurd q (by omega)⟩
  · refine ⟨fun q => absurd rfl q, fun _ => ?_⟩
    rw [B.2.1, Int.toNat_natCast, (vy_kc B.1 hi).2.1]
    refine ⟨by omega, vx_CI_mono (vc_166 hT (by omega)) ?_⟩
    rintro r4 h4 _ ⟨rfl, f, b⟩ _
    exact ⟨fun _ => Or.inr ⟨rfl, q, f, b⟩, fun q => absurd rfl q⟩
/-- where variables are put -/
abbrev vy_Sv (o a k : Nat) : Prop := a = 19 ∨ a = 20 ∨ (a = o ∧ k = 5)
theorem vc_161 (hT : vx_T 1 625 h) (ok : vy_ok ts) (B : vy_cb h ts o i V) : vx_CI d 161 [.ref 7] h (fun r h1 => (vy_vx V (vy_v ts i) < V.1 ∧ r = (vy_vx V (vy_v ts i) : Nat) ∧ h1 = h) ∨ (vy_vx V (vy_v ts i) = V.1 ∧ 8 ≤ V.1 ∧ r = -1 ∧ h1 = h) ∨ (vy_vx V (vy_v ts i) = V.1 ∧ V.1 < 8 ∧ r = (V.1 : Int) ∧ vx_fr (vy_Sv o) h h1 ∧ vy_cb h1 ts o i (vy_va V (vy_v ts i) (vy_p ts i)))) := by
  have hl := ok.2.1
  obtain ⟨b1, b2, b3, b4, b5, b6, b7, b8⟩ := id B
  have n := vy_on b5
  have hkc := vy_kc b1 b3
  refine vg_161 hT ?_
  have L : ∀ (m v : Nat) (y : Int), V.1 - v = m → v ≤ V.1 → y = v → (∀ j, j < v → V.2.1 j ≠ vy_v ts i) → vx_W d 161 2 [some (.ref 7), some (.int (vx_i y))] [] h (vx_RI (fun r h1 => (vy_vx V (vy_v ts i) < V.1 ∧ r = (vy_vx V (vy_v ts i) : Nat) ∧ h1 = h) ∨ (vy_vx V (vy_v ts i) = V.1 ∧ 8 ≤ V.1 ∧ r = -1 ∧ h1 = h) ∨ (vy_vx V (vy_v ts i) = V.1 ∧ V.1 < 8 ∧ r = (V.1 : Int) ∧ vx_fr (vy_Sv o) h h1 ∧ vy_cb h1 ts o i (vy_va V (vy_v ts i) (vy_p ts i))))) := by
    intro m
    induction m with
    | zero =>
      intro v y hm hv hy hno
      have hvx : vy_vx V (vy_v ts i) = V.1 := vy_ix_eq (fun j hj => hno j (by omega)) (fun q => absurd q (by omega)) (Nat.le_refl _)
      refine vg_161_2 hT ⟨o, b4, b5, ?_⟩
      rw [b6, b2, Int.toNat_natCast, Int.toNat_natCast, hkc.2.2]
      refine ⟨by omega, fun _ => ⟨fun q => ⟨by omega, by omega, fun h7 e7 T7 => ?_⟩, fun q => Or.inr (Or.inl ⟨hvx, by omega, rfl, rfl⟩)⟩, fun q => absurd q (by omega)⟩
      have f7 : vx_fr (vy_Sv o) h h7 := vx_fr_sK vx_fr_refl e7 (by omega)
      rw [show vx_J h7 7 9 = i by rw [e7, vx_J_sK, b2], show vx_J h7 o 5 = V.1 by rw [e7, vx_J_sK, b6], Int.toNat_natCast, Int.toNat_natCast, show vx_J h7 5 i = vy_p ts i by rw [e7, vx_J_sK, hkc.2.1]]
      refine ⟨by omega, by omega, fun h10 e10 T10 h11 e11 T11 => ?_⟩
      have c10 : vx_J h10 o 5 = V.1 := by rw [e10, vx_J_ne (by omega), e7, vx_J_sK, b6]
      rw [c10] at e11
      have c11 : vx_J h11 o 5 = (V.1 : Int) + 1 := by rw [e11, vx_J_eq (by omega)]
      have f11 : vx_fr (vy_Sv o) h h11 := vx_fr_sJ (vx_fr_sJ f7 e10 (by omega)) e11 (by omega)
      have hp := ok.2.2.2.1 i b3
      rw [c11]
      refine ⟨by omega, Or.inr (Or.inr ⟨hvx, by omega, by omega, f11, vy_kc_fr b1 f11 (fun k => by omega), (vx_fr_J f11 (by omega)).trans b2, b3, (vx_fr_R f11 (by omega)).trans b4, b5, by rw [c11]; rfl, by show V.1 + 1 ≤ 8; omega, fun v2 hv2 => ?_⟩)⟩
      have hv2 : v2 < V.1 + 1 := hv2
      have hvr : vx_rL (vy_v ts i) := by rw [← hkc.2.2]; exact vx_rL_K _ _ _
      show vx_K h11 19 v2 = (if v2 = V.1 then vy_v ts i else V.2.1 v2) ∧ vx_J h11 20 v2 = (if v2 = V.1 then vy_p ts i else V.2.2 v2)
      rw [e11, vx_K_sJ, e10, vx_K_sJ, e7, vx_K_sK hvr, vx_J_ne (by omega), vx_J_sJ (by omega), vx_J_sK]
      by_cases q2 : v2 = V.1
      · rw [if_pos ⟨rfl, q2⟩, if_pos q2, if_pos ⟨rfl, q2⟩, if_pos q2]
        exact ⟨rfl, rfl⟩
      · rw [if_neg (by omega), if_neg q2, if_neg (by omega), if_neg q2]
        exact b8 v2 (by omega)
    | succ m ih =>
      intro v y hm hv hy hno
      refine vg_161_2 hT ⟨o, b4, b5, ?_⟩
      rw [b6, b2, Int.toNat_natCast, Int.toNat_natCast, hkc.2.2, show y.toNat = v by omega, (b8 v (by omega)).1]
      refine ⟨by omega, fun q => absurd q (by omega), fun _ => ⟨by omega, by omega, fun q => ih (v + 1) (y + 1) (by omega) (by omega) (by omega) (fun j hj => ?_), fun q => ?_⟩⟩
      · by_cases q2 : j = v
        · rw [q2]; exact q
        · exact hno j (by omega)
      · have hvx : vy_vx V (vy_v ts i) = v := vy_ix_eq hno (fun _ => q) (by omega)
        rw [hvx]
        exact Or.inl ⟨by omega, hy, rfl⟩
  exact L V.1 0 0 rfl (Nat.zero_le _) rfl (fun j hj => by omega)
abbrev vy_St (o k0 a k : Nat) : Prop := (a = 7 ∧ (k = 9 ∨ k = 11 ∨ k = 12)) ∨ (a = 17 ∧ k = k0) ∨ a = 19 ∨ a = 20 ∨ (a = o ∧ k = 5)
/-- how a term's reading ends -/
def vy_tP (ts : vy_T) (o k0 : Nat) (R : Int ⊕ (Int × Nat × vy_V)) (h : ve_H) (r : Int) (h1 : ve_H) : Prop := vx_fr (vy_St o k0) h h1 ∧ match R with
  | .inl p => r = 0 ∧ vy_bad p h1
  | .inr q => r = 1 ∧ vx_K h1 17 k0 = q.1 ∧ vy_cb h1 ts o q.2.1 q.2.2 ∧ vy_fx h h1
theorem vc_160_put {h1 h2 : ve_H} {k0 : Nat} {z t : Int} (B : vy_cb h1 ts o i V) (e1 : h2 = vx_sK h1 17 k0 t) (ht : vx_rL t) : vy_cb h2 ts o i V ∧ vx_K h2 17 k0 = t ∧ vx_fr (vy_St o k0) h1 h2 := by
  obtain ⟨b1, b2, b3, b4, b5, b6, b7, b8⟩ := B
  have n := vy_on b5
  have f : vx_fr (fun a k => a = 17 ∧ k = k0) h1 h2 := vx_fr_sK vx_fr_refl e1 ⟨rfl, rfl⟩
  refine ⟨⟨vy_kc_fr b1 f (fun k => by omega), (vx_fr_J f (by omega)).trans b2, b3, (vx_fr_R f (by omega)).trans b4, b5, (vx_fr_J f (by omega)).trans b6, b7, fun v hv => ⟨(vx_fr_K f (by omega)).trans (b8 v hv).1, (vx_fr_J f (by omega)).trans (b8 v hv).2⟩⟩, by rw [e1, vx_K_eq ht], vx_fr_mono f (by intro a k q; omega)⟩
theorem vc_160 {k0 : Nat} {rl : Int} {any : Bool} (hT : vx_T 1 625 h) (ok : vy_ok ts) (B : vy_cb h ts o i V) (hk : k0 < 4) (hx : x = k0) (hr : vx_rI rl) (ha : any = true ↔ (rl = 15 ∨ (rl = 14 ∧ vx_J h o 2 = -1))) : vx_CI (d + 1) 160 [.ref 7, .int (vx_i x), .int (vx_i rl)] h (vy_tP ts o k0 (vy_tm ts any i V) h) := by
  have hl := ok.2.1
  have hi := B.2.2.1
  have n := vy_on B.2.2.2.2.1
  have ex : x.toNat = k0 := by omega
  -- the last steps
  have PUT : ∀ (g h2 h3 : ve_H) (j : Nat) (W : vy_V) (t : Int), vx_fr (vy_St o k0) h g → vy_fx h g → vy_cb g ts o j W → vy_k ts j ≠ 0 → vx_rL t → h2 = vx_sK g 17 k0 t → h3 = vx_sJ h2 7 9 ((vx_J h2 7 9) + 1) → vy_tP ts o k0 (.inr (t, j + 1, W)) h 1 h3 := by
    intro g h2 h3 j W t fg xg Bg hk0 ht e2 e3
    obtain ⟨B2, k2, f2⟩ := vc_160_put (z := 0) Bg e2 ht
    rw [B2.2.1] at e3
    have B3 := vy_cb_at B2 e3 (j := j + 1) (by omega) (vy_nx ok Bg.2.2.1 hk0) (by have := Bg.2.2.1; omega)
    refine ⟨vx_fr_sJ (vx_fr_trans fg f2) e3 (by omega), rfl, ?_, B3, ?_, ?_⟩
    · rw [e3, vx_K_sJ, k2]
    · rw [e3, vx_J_ne (by omega), e2, vx_J_sK]; exact xg.1
    · rw [e3, vx_J_ne (by omega), e2, vx_J_sK]; exact xg.2
  have REF : ∀ {d : Nat} (g : ve_H) (j : Nat) (W : vy_V), vx_T 1 625 g → vx_fr (vy_St o k0) h g → vy_cb g ts o j W → vy_tm ts any i V = .inl (vy_p ts j) → vx_CI d 163 [.ref 7] g (fun r8 h8 => vx_T 1 625 h8 → vx_CI d 166 [.ref 7, .int (vx_i r8)] h8 (fun r9 h9 => vx_T 1 625 h9 → (r9 = 0 ∨ r9 = 1) ∧ vy_tP ts o k0 (vy_tm ts any i V) h r9 h9)) := by
    intro d g j W Tg fg Bg e
    refine vc_ref Tg ok Bg (fun h1 f1 b1 => ?_)
    rw [e]
    exact ⟨vx_fr_trans fg (vx_fr_mono f1 (by intro a k q; omega)), rfl, b1⟩
  refine vg_160 hT (vx_CI_mono (vc_164 hT ok B (by omega) (by omega)) ?_)
  rintro r1 h1 _ (⟨rfl, q1, e1, B1⟩ | ⟨rfl, q1, rfl⟩) T1
  · -- behind a minus
    have f1 : vx_fr (vy_St o k0) h h1 := vx_fr_sJ vx_fr_refl e1 (by omega)
    refine vx_CI_mono (vc_162 T1 ok B1) ?_
    rintro r2 h2 _ ⟨rfl, rfl⟩ T2
    refine ⟨fun q2 => ⟨fun q => absurd q (by omega), fun _ => REF h2 (i + 1) V T2 f1 B1 ?_⟩, fun q2 => ⟨fun q => absurd q (by omega), fun _ => ?_⟩⟩
    · unfold vy_tm
      rw [if_pos q1, if_neg q2]
    · rw [B1.2.1, Int.toNat_natCast, (vy_kc B1.1 B1.2.2.1).2.2, ex]
      refine ⟨by have := B1.2.2.1; omega, by omega, fun h50 e50 T50 h51 e51 T51 => ?_⟩
      have e : vy_tm ts any i V = .inr (-(vy_v ts (i + 1)), i + 2, V) := by
        unfold vy_tm
        rw [if_pos q1, if_pos q2]
      rw [e]
      refine PUT h2 h50 h51 (i + 1) V _ f1 ⟨by rw [e1, vx_J_ne (by omega)], by rw [e1, vx_J_ne (by omega)]⟩ B1 (by omega) ?_ e50 e51
      have := ok.2.2.2.2.2 (i + 1) B1.2.2.1 q2
      omega
  · refine vx_CI_mono (vc_162 hT ok B) ?_
    rintro r2 h2 _ ⟨rfl, rfl⟩ -
    refine ⟨fun q2 => ⟨fun _ => ⟨fun q3 => ⟨fun q4 => ⟨fun q5 => REF h2 i V hT vx_fr_refl B ?_, fun q5 => ⟨hr, fun q6 => ⟨by omega, fun h14 e14 T14 h15 e15 T15 => ?_⟩, fun q6 => ⟨fun q7 => REF h2 i V hT vx_fr_refl B ?_, fun q7 => ⟨o, B.2.2.2.1, B.2.2.2.2.1, fun q8 => REF h2 i V hT vx_fr_refl B ?_, fun q8 => ⟨by omega, fun h26 e26 T26 h27 e27 T27 => ?_⟩⟩⟩⟩⟩, fun q4 => ?_⟩, fun q3 => ?_⟩, fun q => absurd rfl q⟩, fun q2 => ⟨fun _ => ?_, fun q => absurd rfl q⟩⟩
    · unfold vy_tm
      rw [if_neg q1, if_neg (by omega), if_neg q4, if_neg (by intro t; exact q5 t.2)]
    · rw [ex] at e14
      have e : vy_tm ts any i V = .inr (288230376151711744, i + 1, V) := by
        unfold vy_tm
        rw [if_neg q1, if_neg (by omega), if_neg q4, if_pos ⟨ha.mpr (Or.inl q6), q5⟩]
      rw [e]
      exact PUT h2 h14 h15 i V _ vx_fr_refl ⟨rfl, rfl⟩ B (by omega) (by omega) e14 e15
    · unfold vy_tm
      rw [if_neg q1, if_neg (by omega), if_neg q4, if_neg (fun t => by rcases ha.mp t.1 with u | u; exact q6 u; exact q7 u.1)]
    · unfold vy_tm
      rw [if_neg q1, if_neg (by omega), if_neg q4, if_neg (fun t => by rcases ha.mp t.1 with u | u; exact q6 u; exact q8 u.2)]
    · rw [ex] at e26
      have e : vy_tm ts any i V = .inr (288230376151711744, i + 1, V) := by
        unfold vy_tm
        rw [if_neg q1, if_neg (by omega), if_neg q4, if_pos ⟨ha.mpr (Or.inr ⟨q7, q8⟩), q5⟩]
      rw [e]
      exact PUT h2 h26 h27 i V _ vx_fr_refl ⟨rfl, rfl⟩ B (by omega) (by omega) e26 e27
    · -- a variable
      refine vx_CI_mono (vc_161 hT ok B) ?_
      rintro r28 h28 hr28 (⟨c1, rfl, rfl⟩ | ⟨c1, c2, rfl, rfl⟩ | ⟨c1, c2, rfl, f28, B28⟩) T28
      · have b7 := B.2.2.2.2.2.2.1
        refine ⟨fun _ => ⟨by omega, fun h31 e31 T31 h32 e32 T32 => ?_⟩, fun q => absurd q (by omega)⟩
        rw [ex] at e31
        have e : vy_tm ts any i V = .inr (144115188075855872 + (vy_vx V (vy_v ts i) : Int), i + 1, V) := by
          unfold vy_tm
          rw [if_neg q1, if_neg (by omega), if_pos q4, if_pos c1]
        rw [e]
        exact PUT h28 h31 h32 i V _ vx_fr_refl ⟨rfl, rfl⟩ B (by omega) (by omega) e31 e32
      · refine ⟨fun q => absurd rfl q, fun _ => REF h28 i V hT vx_fr_refl B ?_⟩
        unfold vy_tm
        rw [if_neg q1, if_neg (by omega), if_pos q4, if_neg (by omega), if_neg (by omega)]
      · refine ⟨fun _ => ⟨by omega, fun h31 e31 T31 h32 e32 T32 => ?_⟩, fun q => absurd q (by omega)⟩
        rw [ex] at e31
        have e : vy_tm ts any i V = .inr (144115188075855872 + (V.1 : Int), i + 1, vy_va V (vy_v ts i) (vy_p ts i)) := by
          unfold vy_tm
          rw [if_neg q1, if_neg (by omega), if_pos q4, if_neg (by omega), if_pos c2]
        rw [e]
        exact PUT h28 h31 h32 i _ _ (vx_fr_mono f28 (by intro a k q; omega)) ⟨vx_fr_J f28 (by omega), vx_fr_J f28 (by omega)⟩ B28 (by omega) (by omega) e31 e32
    · -- a name
      rw [B.2.1, Int.toNat_natCast, (vy_kc B.1 hi).2.2, ex]
      refine ⟨by omega, by omega, fun h38 e38 T38 h39 e39 T39 => ?_⟩
      have e : vy_tm ts any i V = .inr (vy_v ts i, i + 1, V) := by
        unfold vy_tm
        rw [if_neg q1, if_pos (Or.inr q3)]
      rw [e]
      exact PUT h2 h38 h39 i V _ vx_fr_refl ⟨rfl, rfl⟩ B (by omega) (by rw [← (vy_kc B.1 hi).2.2]; exact vx_rL_K _ _ _) e38 e39
    · -- a number
      rw [B.2.1, Int.toNat_natCast, (vy_kc B.1 hi).2.2, ex]
      refine ⟨by omega, by omega, fun h46 e46 T46 h47 e47 T47 => ?_⟩
      have e : vy_tm ts any i V = .inr (vy_v ts i, i + 1, V) := by
        unfold vy_tm
        rw [if_neg q1, if_pos (Or.inl q2)]
      rw [e]
      exact PUT h2 h46 h47 i V _ vx_fr_refl ⟨rfl, rfl⟩ B (by omega) (by rw [← (vy_kc B.1 hi).2.2]; exact vx_rL_K _ _ _) e46 e47
end
