/-! Facts and questions that are read alone: what comes out -/
noncomputable def vu_fc (ts : vy_T) (Pd : vy_V) : vy_F ⊕ (vy_F × Int × (Nat → Int)) :=
  match vy_am ts false true false 0 vu_V0 vu_O0 Pd (0, 0) with
  | .inl p => .inl (1, p)
  | .inr q => if vy_k ts q.1 ≠ 46 then .inl (1, vy_p ts q.1)
    else if vy_ff q.2.1 q.2.2.1 ≠ -1 then .inl (1, vy_ff q.2.1 q.2.2.1)
    else if vy_k ts (q.1 + 1) ≠ 0 then .inl (1, vy_p ts (q.1 + 1))
    else if q.2.2.2.2.2.2.2.1 ≠ 0 then .inl q.2.2.2.2.2.2.2
    else .inr (q.2.2.2.2.2.2.2, q.2.2.2.2.2.1, q.2.2.2.1)
noncomputable def vu_qc (ts : vy_T) (Pd : vy_V) : vy_F ⊕ (vy_F × Nat × vy_L) :=
  match vy_bo ts false vu_O0 6 0 vu_V0 Pd (0, 0) vu_L0 0 with
  | .inl p => .inl (1, p)
  | .inr u => if vy_k ts u.1 ≠ 63 then .inl (1, vy_p ts u.1)
    else if vy_k ts (u.1 + 1) ≠ 0 then .inl (1, vy_p ts (u.1 + 1))
    else if (vz_un (vz_s u.2.2.2.2.1) u.2.1 u.2.2.2.1 u.2.1.1).1 ≠ 0 then .inl (vz_un (vz_s u.2.2.2.2.1) u.2.1 u.2.2.2.1 u.2.1.1)
    else .inr (vz_un (vz_s u.2.2.2.2.1) u.2.1 u.2.2.2.1 u.2.1.1, u.2.1.1, u.2.2.2.2.1)
/-- a question -/
def vu_wQ (Pd : vy_V) (n : Nat) (L : vy_L) : Prop := vz_wf (-1) n L ∧ n ≤ 8 ∧ (1 ≤ L.1 ∧ L.1 ≤ 6) ∧ (∀ v, v < n → vz_bd L v) ∧ vu_wL Pd L
section
variable {d i n m : Nat} {ts : vy_T} {V Pd : vy_V} {O : vy_O} {F : vy_F} {L : vy_L} {h : ve_H}
theorem vy_am_pd {hd any : Bool} {q : Nat × vy_V × vy_O × (Nat → Int) × Nat × Int × vy_V × vy_F} (e : vy_am ts false hd any i V O Pd F = .inr q) : q.2.2.2.2.2.2.1 = Pd := by
  unfold vy_am at e
  split at e
  · cases e
  split at e
  · cases e
  split at e
  · cases e
  split at e
  · cases e
  split at e
  · cases e
  split at e
  · cases e; rfl
  split at e
  · rename_i t; cases t
  · cases e; rfl
theorem vy_li_pd {q : Nat × vy_V × vy_V × vy_F × vy_L × Nat} {at_ : Nat} (e : vy_li ts false i V O Pd F L at_ = .inr q) : q.2.2.1 = Pd := by
  unfold vy_li at e
  split at e
  · split at e
    · cases e
    rename_i u hu
    cases e; exact vy_am_pd hu
  split at e
  · split at e
    · cases e
    split at e
    · cases e
    rename_i u hu
    cases e; exact vy_am_pd hu
  · split at e
    · cases e
    · cases e; rfl
theorem vy_bo_pd : ∀ (m i : Nat) (V Pd : vy_V) (F : vy_F) (L : vy_L) (at_ : Nat) {q : Nat × vy_V × vy_V × vy_F × vy_L × Nat}, vy_bo ts false O m i V Pd F L at_ = .inr q → q.2.2.1 = Pd
  | 0, i, V, Pd, F, L, at_, q, e => by cases e
  | m + 1, i, V, Pd, F, L, at_, q, e => by
    unfold vy_bo at e
    split at e
    · cases e
    rename_i u hu
    have := vy_li_pd hu
    split at e
    · rw [vy_bo_pd m _ _ _ _ _ _ e]; exact this
    · cases e; exact this
theorem vu_fc_w {f : vy_F × Int × (Nat → Int)} (ok : vy_ok ts) (ok2 : vy_ok2 ts) (ok3 : vy_ok3 ts) (e : vu_fc ts Pd = .inr f) : f.1.1 = 0 ∧ vu_wA Pd (vu_row f.2.1 f.2.2) := by
  unfold vu_fc at e
  split at e
  · cases e
  rename_i q hq
  have Qw := vy_am_w hq
  have Qv := vy_am_v ok ok2 (show vu_V0.1 ≤ 8 by decide) hq
  have Qt := vy_am_t ok ok2 ok3 (show vu_V0.1 ≤ 8 by decide) hq
  have Qp := vy_am_p ok vz_pr0 hq
  have Qd := vy_am_pd hq
  split at e
  · cases e
  split at e
  · cases e
  rename_i ff
  split at e
  · cases e
  split at e
  · cases e
  rename_i z
  have z := Classical.not_not.mp z
  cases e
  refine ⟨z, ?_⟩
  obtain ⟨p, p1, p2, p3⟩ := Qw.2.2.2.2 z
  have ff : vy_ff q.2.1 q.2.2.1 = -1 := Classical.not_not.mp ff
  have V0 : q.2.1.1 = 0 := by
    by_cases t : q.2.1.1 = 0
    · exact t
    · exfalso
      have := Qp.1 0 (by omega)
      unfold vy_ff at ff
      split at ff
      · rename_i t2
        have := Qp.2 t2.1
        omega
      · first
        | omega
        | (rw [if_neg t] at ff; omega)
  rw [Qd] at p1 p3
  refine ⟨p, q.2.2.2.2.1, p2, p1, p3, Qw.1.1, Qw.1.2, fun k => ?_, fun k hk => Qw.2.1 k hk⟩
  show vz_va (q.2.2.2.1 k)
  rcases Qt.1 k with h | ⟨v, h⟩ | h
  · exact h
  · have := (Qv.2.2 k).1 v h; omega
  · exact absurd h ((Qv.2.2 k).2 rfl)
theorem vu_qc_w {f : vy_F × Nat × vy_L} (ok : vy_ok ts) (ok2 : vy_ok2 ts) (ok3 : vy_ok3 ts) (e : vu_qc ts Pd = .inr f) : f.1.1 = 0 ∧ vu_wQ Pd f.2.1 f.2.2 := by
  unfold vu_qc at e
  split at e
  · cases e
  rename_i u hu
  have Z0 : vz_wf vu_O0.1 vu_V0.1 vu_L0 := fun j hj => absurd (show j < 0 from hj) (by omega)
  have Uw := vy_bo_w ok ok2 6 0 _ _ _ _ _ (show vu_V0.1 ≤ 8 by decide) Z0 hu
  have Ut := vy_bo_t (j0 := 0) ok ok2 ok3 6 0 _ _ _ _ _ (show vu_V0.1 ≤ 8 by decide) (Nat.le_refl _) Z0 (fun _ j hj => absurd (show j < 0 from hj) (by omega)) ⟨fun _ => 0, fun a ha => absurd (show a < 0 from ha) (by omega), fun a b _ hb => absurd (show b < 0 from hb) (by omega)⟩ hu
  have Ud := vy_bo_pd 6 0 _ _ _ _ _ hu
  split at e
  · cases e
  split at e
  · cases e
  split at e
  · cases e
  rename_i z
  have z := Classical.not_not.mp z
  cases e
  obtain ⟨z1, z2⟩ := vz_un_0 _ z
  have l6 : u.2.2.2.2.1.1 ≤ 6 := by have := Ut.2.2.2; have t0 : vu_L0.1 = 0 := rfl; omega
  have wL := Ut.1 z1
  rw [Ud] at wL
  exact ⟨z, Uw.2.2, Uw.2.1, ⟨by show 1 ≤ u.2.2.2.2.1.1; omega, l6⟩, fun v hv => vz_s_iff.mp (z2 v hv), wL⟩
end
