/-! Reading clauses: the class -/
section
variable {d i o pi n : Nat} {h h1 : ve_H} {ts : vy_T} {V Pd : vy_V} {O : vy_O} {F : vy_F} {L : vy_L} {op : Bool} {x y : Int}
theorem vc_149 (ho : vx_o 1 625 7 o) (hT : vx_T 1 625 h) : vx_CV (d + 1) 149 [.ref 7, .ref o] h (fun h1 => vx_fr (fun a k => (a = 7 ∧ k = 8) ∨ (a = o ∧ (k = 0 ∨ k = 2 ∨ k = 5 ∨ k = 6 ∨ k = 7))) h h1 ∧ ve_R h1 7 8 = some o ∧ vx_J h1 o 0 = -1 ∧ vx_J h1 o 2 = -1 ∧ vx_J h1 o 5 = 0 ∧ vx_J h1 o 6 = 0 ∧ vx_J h1 o 7 = 0) := by
  have n7 := (vy_on ho).2.2.2.2.2.2.1
  refine vg_149 ho hT (fun h1 e1 T1 => vg_182 ho T1 (fun h2 e2 T2 h3 e3 T3 h4 e4 T4 h5 e5 T5 h6 e6 T6 _ => ?_))
  have f : vx_fr (fun a k => a = o ∧ (k = 0 ∨ k = 2 ∨ k = 5 ∨ k = 6 ∨ k = 7)) h1 h6 := vx_fr_sJ (vx_fr_sJ (vx_fr_sJ (vx_fr_sJ (vx_fr_sJ vx_fr_refl e2 (by omega)) e3 (by omega)) e4 (by omega)) e5 (by omega)) e6 (by omega)
  refine ⟨vx_fr_trans (vx_fr_sR vx_fr_refl e1 (Or.inl ⟨rfl, rfl⟩)) (vx_fr_mono f (fun a k q => Or.inr q)), (vx_fr_R f (fun t => n7 t.1.symm)).trans (vx_Rsm e1), ?_, ?_, ?_, ?_, ?_⟩
  · rw [e6, vx_J_ne (by omega), e5, vx_J_ne (by omega), e4, vx_J_ne (by omega), e3, vx_J_ne (by omega), e2, vx_J_eq (by decide)]
  · rw [e6, vx_J_ne (by omega), e5, vx_J_ne (by omega), e4, vx_J_ne (by omega), e3, vx_J_eq (by decide)]
  · rw [e6, vx_J_ne (by omega), e5, vx_J_ne (by omega), e4, vx_J_eq (by decide)]
  · rw [e6, vx_J_ne (by omega), e5, vx_J_eq (by decide)]
  · rw [e6, vx_J_eq (by decide)]
theorem vc_151 {p : Int} {A : Nat → Int} (hT : vx_T 1 625 h) (h8 : ve_R h 7 8 = some o) (ho : vx_o 1 625 7 o) (h5 : vx_J h o 5 = V.1) (hP : ∀ v, v < V.1 → vx_J h 20 v = V.2.2 v) (C : vy_co h o O) (pr : vz_pr V O) (h10 : vx_J h 7 10 = p) (hA : ∀ k, k < 4 → vx_K h 17 k = A k) : vx_CI (d + 1) 151 [.ref 7] h (fun r h1 => (vy_ff V O = -1 ∧ r = 1 ∧ vx_fr (fun a _ => a = 18) h h1 ∧ ∀ k, k < 5 → vx_K h1 18 k = vu_row p A k) ∨ (vy_ff V O ≠ -1 ∧ r = 0 ∧ vx_fr (fun a k => a = 7 ∧ (k = 11 ∨ k = 12)) h h1 ∧ vy_bad (vy_ff V O) h1)) := by
  have hp : vx_rI p := by rw [← h10]; exact vx_rI_J _ _ _
  -- the row is put
  have PUT : ∀ h5 h6 : ve_H, vy_ff V O = -1 → h5 = vx_sK h 18 0 (vx_J h 7 10) → h6 = ve_cp h5 17 0 18 1 h5 4 → ((vy_ff V O = -1 ∧ (1 : Int) = 1 ∧ vx_fr (fun a _ => a = 18) h h6 ∧ ∀ k, k < 5 → vx_K h6 18 k = vu_row p A k) ∨ (vy_ff V O ≠ -1 ∧ (1 : Int) = 0 ∧ vx_fr (fun a k => a = 7 ∧ (k = 11 ∨ k = 12)) h h6 ∧ vy_bad (vy_ff V O) h6)) := by
    intro h5 h6 hf e5 e6
    refine Or.inl ⟨hf, rfl, vx_fr_cp (vx_fr_sK vx_fr_refl e5 rfl) e6 (fun k _ _ => rfl), fun k hk => ?_⟩
    rw [e6, vx_K_cp, e5, h10]
    cases k with
    | zero =>
      rw [if_neg (by omega), vx_K_eq (by omega)]
      rfl
    | succ k =>
      rw [if_pos ⟨rfl, by omega, by omega⟩, vx_K_ne (by omega), show 0 + (k + 1 - 1) = k by omega]
      exact hA k (by omega)
  have REF : ∀ q : Int, vx_rI q → q ≠ -1 → vy_ff V O = q → vx_CI d 166 [.ref 7, .int (vx_i q)] h (fun r8 h8 => vx_T 1 625 h8 → (r8 = 0 ∨ r8 = 1) ∧ ((vy_ff V O = -1 ∧ r8 = 1 ∧ vx_fr (fun a _ => a = 18) h h8 ∧ ∀ k, k < 5 → vx_K h8 18 k = vu_row p A k) ∨ (vy_ff V O ≠ -1 ∧ r8 = 0 ∧ vx_fr (fun a k => a = 7 ∧ (k = 11 ∨ k = 12)) h h8 ∧ vy_bad (vy_ff V O) h8))) := by
    intro q hq hn e
    refine vx_CI_mono (vc_166 hT hq) ?_
    rintro r8 h8 _ ⟨rfl, f8, b8⟩ _
    rw [e]
    exact ⟨Or.inl rfl, Or.inr ⟨hn, rfl, f8, b8⟩⟩
  refine vg_151 hT ⟨o, h8, ho, ?_⟩
  rw [C.1, h5]
  refine ⟨fun q => ?_, fun q => ⟨fun q2 h27 e27 T27 => ⟨by omega, fun h28 e28 T28 => PUT h27 h28 ?_ e27 e28⟩, fun q2 => ?_⟩⟩
  · have c4 := (C.2 q).2
    have p4 := pr.2 q
    rw [c4]
    refine ⟨fun q2 => ⟨fun q3 => absurd q3 (by omega), fun q3 => REF _ (by omega) q3 ?_⟩, fun q2 => ⟨fun q3 => absurd q3 (by omega), fun q3 => ?_⟩⟩
    · unfold vy_ff
      rw [if_pos ⟨q, Or.inl (by omega)⟩]
    · have v0 := pr.1 0 (by omega)
      rw [hP 0 (by omega)]
      refine ⟨fun q4 => REF _ (by omega) q3 ?_, fun q4 => ⟨fun q5 => absurd q5 (by omega), fun q5 => REF _ (by omega) q5 ?_⟩⟩
      · unfold vy_ff
        by_cases t : O.2.2 < V.2.2 0
        · rw [if_pos ⟨q, Or.inr t⟩]
        · rw [if_neg (by omega), if_neg (by omega)]; omega
      · unfold vy_ff
        rw [if_neg (by omega), if_neg (by omega)]
  · unfold vy_ff
    rw [if_neg (fun t => t.1 q), if_pos (by omega)]
  · have v0 := pr.1 0 (by omega)
    rw [hP 0 (by omega)]
    refine ⟨fun q3 => absurd q3 (by omega), fun q3 => REF _ (by omega) q3 ?_⟩
    unfold vy_ff
    rw [if_neg (fun t => t.1 q), if_neg (by omega)]
/-- how a clause's reading ends -/
def vu_cP (ts : vy_T) (pi n : Nat) (RR : Nat → vu_R) (cnt : Nat) (rr : Nat → Nat → Int) (R : vu_C) (h : ve_H) (r : Int) (h1 : ve_H) : Prop := vx_fr (vu_Sc pi n) h h1 ∧ match R with
  | .inl p => r = 0 ∧ vy_bad p h1
  | .inr q => r = 1 ∧ match q.2.2.2 with
    | .inl f => vu_cS h1 ts pi q.1 q.2.1 q.2.2.1 n RR (vu_fa cnt rr (vu_row f.1 f.2)).1 (vu_fa cnt rr (vu_row f.1 f.2)).2
    | .inr R => vu_cS h1 ts pi q.1 q.2.1 q.2.2.1 (n + 1) (fun r => if r = n then R else RR r) cnt rr
end
