/-! Reading arguments -/
abbrev vy_O : Type := Int × Int × Int
def vy_set (A : Nat → Int) (k : Nat) (t : Int) : Nat → Int := fun j => if j = k then t else A j
/-- arguments from a token on, m of them at most: where they are refused, or the token behind them, the variables, the total, the terms, how many -/
def vy_ar (ts : vy_T) (hd any : Bool) : Nat → Nat → vy_V → vy_O → (Nat → Int) → Int ⊕ (Nat × vy_V × vy_O × (Nat → Int) × Nat)
  | 0, i, _, _, _ => .inl (vy_p ts i)
  | m + 1, i, V, O, A =>
    if hd = true ∧ 6 ≤ vy_k ts i ∧ vy_k ts i ≤ 9 then
      (if O.1 ≠ -1 then .inl (vy_p ts i)
       else if vy_k ts (i + 1) ≠ 40 then .inl (vy_p ts (i + 1))
       else if vy_k ts (i + 2) ≠ 3 then .inl (vy_p ts (i + 2))
       else match vy_tm ts any (i + 2) V with
        | .inl p => .inl p
        | .inr q => if vy_k ts q.2.1 ≠ 41 then .inl (vy_p ts q.2.1)
          else if vy_k ts (q.2.1 + 1) = 44 then vy_ar ts hd any m (q.2.1 + 2) q.2.2 (vy_k ts i, 3 - (m : Int), vy_p ts i) (vy_set A (3 - m) q.1)
          else .inr (q.2.1 + 1, q.2.2, (vy_k ts i, 3 - (m : Int), vy_p ts i), vy_set A (3 - m) q.1, 4 - m))
    else match vy_tm ts any i V with
      | .inl p => .inl p
      | .inr q => if vy_k ts q.2.1 = 44 then vy_ar ts hd any m (q.2.1 + 1) q.2.2 O (vy_set A (3 - m) q.1) else .inr (q.2.1, q.2.2, O, vy_set A (3 - m) q.1, 4 - m)
abbrev vy_Sa (o a k : Nat) : Prop := (a = 7 ∧ (k = 9 ∨ k = 11 ∨ k = 12)) ∨ a = 17 ∨ a = 19 ∨ a = 20 ∨ (a = o ∧ (k = 2 ∨ k = 3 ∨ k = 4 ∨ k = 5))
def vy_co (h : ve_H) (o : Nat) (O : vy_O) : Prop := vx_J h o 2 = O.1 ∧ (O.1 ≠ -1 → vx_J h o 3 = O.2.1 ∧ vx_J h o 4 = O.2.2)
section
variable {d i o : Nat} {h : ve_H} {ts : vy_T} {V : vy_V} {O : vy_O} {x y : Int}
theorem vc_168 (hT : vx_T 1 625 h) (hx : vx_rI x) : vx_CI d 168 [.int (vx_i x)] h (fun r h1 => h1 = h ∧ ((r = 1 ∧ 6 ≤ x ∧ x ≤ 9) ∨ (r = 0 ∧ ¬ (6 ≤ x ∧ x ≤ 9)))) :=
  vg_168 hT ⟨hx, fun q => ⟨rfl, by omega⟩, fun q => ⟨fun q2 => ⟨rfl, by omega⟩, fun q2 => ⟨rfl, by omega⟩⟩⟩
theorem vy_co_fr {h1 : ve_H} {S : Nat → Nat → Prop} (c : vy_co h o O) (f : vx_fr S h h1) (hs : ¬ S o 2 ∧ ¬ S o 3 ∧ ¬ S o 4) : vy_co h1 o O :=
  ⟨(vx_fr_J f hs.1).trans c.1, fun q => ⟨(vx_fr_J f hs.2.1).trans (c.2 q).1, (vx_fr_J f hs.2.2).trans (c.2 q).2⟩⟩
theorem vy_cb_fr {h1 : ve_H} {S : Nat → Nat → Prop} (B : vy_cb h ts o i V) (f : vx_fr S h h1) (hs : ∀ k, ¬ S 4 k ∧ ¬ S 5 k ∧ ¬ S 6 k ∧ ¬ S 19 k ∧ ¬ S 20 k) (h9 : ¬ S 7 9) (h8 : ¬ S 7 8) (h5 : ¬ S o 5) : vy_cb h1 ts o i V := by
  obtain ⟨b1, b2, b3, b4, b5, b6, b7, b8⟩ := B
  refine ⟨vy_kc_fr b1 f (fun k => ⟨(hs k).1, (hs k).2.1, (hs k).2.2.1⟩), (vx_fr_J f h9).trans b2, b3, (vx_fr_R f h8).trans b4, b5, (vx_fr_J f h5).trans b6, b7, fun v hv => ⟨(vx_fr_K f (hs _).2.2.2.1).trans (b8 v hv).1, (vx_fr_J f (hs _).2.2.2.2).trans (b8 v hv).2⟩⟩
/-- the opening of a total, up to its variable -/
theorem vc_159 {k0 : Nat} (hT : vx_T 1 625 h) (ok : vy_ok ts) (B : vy_cb h ts o i V) (C : vy_co h o O) (hx : x = k0) (hk0 : k0 < 4) (hk : 6 ≤ vy_k ts i ∧ vy_k ts i ≤ 9) : vx_CI (d + 1) 159 [.ref 7, .int (vx_i x)] h (fun r h1 => vx_fr (vy_Sa o) h h1 ∧
    ((r = 0 ∧ O.1 ≠ -1 ∧ vy_bad (vy_p ts i) h1) ∨ (r = 0 ∧ O.1 = -1 ∧ vy_k ts (i + 1) ≠ 40 ∧ vy_bad (vy_p ts (i + 1)) h1) ∨ (r = 0 ∧ O.1 = -1 ∧ vy_k ts (i + 1) = 40 ∧ vy_k ts (i + 2) ≠ 3 ∧ vy_bad (vy_p ts (i + 2)) h1) ∨ (r = 1 ∧ O.1 = -1 ∧ vy_k ts (i + 1) = 40 ∧ vy_k ts (i + 2) = 3 ∧ vy_cb h1 ts o (i + 2) V ∧ vy_co h1 o (vy_k ts i, (k0 : Int), vy_p ts i) ∧ (∀ k, vx_K h1 17 k = vx_K h 17 k) ∧ vy_fx h h1))) := by
  have hl := ok.2.1
  have b5 := B.2.2.2.2.1
  have n := vy_on b5
  have hi := B.2.2.1
  have hp := ok.2.2.2.1 i hi
  refine vg_159 hT ⟨o, B.2.2.2.1, b5, ?_⟩
  rw [C.1]
  refine ⟨fun q => vx_CI_mono (vc_162 hT ok B) ?_, fun q => vc_ref hT ok B (fun h1 f1 b1 => ⟨vx_fr_mono f1 (by intro a k q; omega), Or.inl ⟨rfl, q, b1⟩⟩)⟩
  rintro r3 h3 hr3 ⟨rfl, rfl⟩ _ h4 e4 T4
  have f4 : vx_fr (fun a k => a = o ∧ (k = 2 ∨ k = 3 ∨ k = 4)) h3 h4 := vx_fr_sJ vx_fr_refl e4 (by omega)
  refine ⟨o, (vx_fr_R f4 (by omega)).trans B.2.2.2.1, b5, fun h6 e6 T6 => ?_⟩
  have f6 := vx_fr_sJ f4 e6 (by omega)
  have B6 := vy_cb_fr B f6 (fun k => by omega) (by omega) (by omega) (by omega)
  refine vx_CI_mono (vc_163 T6 ok B6) ?_
  rintro r7 h7 hr7 ⟨rfl, rfl⟩ _ h8 e8 T8 h9 e9 T9
  have f8 := vx_fr_sJ f6 e8 (by omega)
  have B8 := vy_cb_fr B f8 (fun k => by omega) (by omega) (by omega) (by omega)
  rw [B8.2.1] at e9
  have B9 := vy_cb_at B8 e9 (j := i + 1) (by omega) (vy_nx ok hi (by omega)) (by omega)
  have F9 : vx_fr (vy_Sa o) h3 h9 := vx_fr_sJ (vx_fr_mono f8 (by intro a k q; omega)) e9 (by omega)
  have c9 : vy_co h9 o (vy_k ts i, (k0 : Int), vy_p ts i) := by
    refine ⟨?_, fun _ => ⟨?_, ?_⟩⟩
    · rw [e9, vx_J_ne (by omega), e8, vx_J_ne (by omega), e6, vx_J_ne (by omega), e4, vx_J_eq (by omega)]
    · rw [e9, vx_J_ne (by omega), e8, vx_J_ne (by omega), e6, vx_J_eq (by omega), hx]
    · rw [e9, vx_J_ne (by omega), e8, vx_J_eq (by omega)]
  have k9 : ∀ k, vx_K h9 17 k = vx_K h3 17 k := fun k => by rw [e9, vx_K_sJ, e8, vx_K_sJ, e6, vx_K_sJ, e4, vx_K_sJ]
  refine vx_CI_mono (vc_164 T9 ok B9 (by omega) (by omega)) ?_
  rintro r10 h10 _ (⟨rfl, q1, e10, B10⟩ | ⟨rfl, q1, rfl⟩) T10
  · have F10 : vx_fr (vy_Sa o) h3 h10 := vx_fr_sJ F9 e10 (by omega)
    refine ⟨fun q => absurd q (by omega), fun _ => vx_CI_mono (vc_162 T10 ok B10) ?_⟩
    rintro r15 h15 _ ⟨rfl, rfl⟩ T15
    refine ⟨fun q3 => ⟨F10, Or.inr (Or.inr (Or.inr ⟨rfl, q, q1, q3, B10, ?_, ?_, ?_, ?_⟩))⟩, fun q3 => ?_⟩
    · exact vy_co_fr c9 (vx_fr_sJ (S := fun a k => a = 7 ∧ k = 9) vx_fr_refl e10 ⟨rfl, rfl⟩) (by omega)
    · intro k
      rw [e10, vx_K_sJ, k9]
    · rw [e10, vx_J_ne (by omega), e9, vx_J_ne (by omega), e8, vx_J_ne (by omega), e6, vx_J_ne (by omega), e4, vx_J_ne (by omega)]
    · rw [e10, vx_J_ne (by omega), e9, vx_J_ne (by omega), e8, vx_J_ne (by omega), e6, vx_J_ne (by omega), e4, vx_J_ne (by omega)]
    · refine vx_CI_mono (vc_163 T15 ok B10) ?_
      rintro r17 h17 _ ⟨rfl, rfl⟩ T17
      have hp2 := ok.2.2.2.1 (i + 1 + 1) B10.2.2.1
      refine vx_CI_mono (vc_166 T17 (by omega)) ?_
      rintro r18 h18 _ ⟨rfl, f18, b18⟩ _
      exact ⟨fun _ => ⟨vx_fr_trans F10 (vx_fr_mono f18 (by intro a k q; omega)), Or.inr (Or.inr (Or.inl ⟨rfl, q, q1, q3, b18⟩))⟩, fun q => absurd rfl q⟩
  · refine ⟨fun _ => vx_CI_mono (vc_163 T9 ok B9) ?_, fun q => absurd rfl q⟩
    rintro r12 h12 _ ⟨rfl, rfl⟩ T12
    have hp2 := ok.2.2.2.1 (i + 1) B9.2.2.1
    refine vx_CI_mono (vc_166 T12 (by omega)) ?_
    rintro r13 h13 _ ⟨rfl, f13, b13⟩ _
    exact ⟨fun _ => ⟨vx_fr_trans F9 (vx_fr_mono f13 (by intro a k q; omega)), Or.inr (Or.inl ⟨rfl, q, q1, b13⟩)⟩, fun q => absurd rfl q⟩
end
