/-! Programs: the class reads them -/
def vu_cT (h : ve_H) (ts : vy_T) (pi i : Nat) (S : vu_S) : Prop := vu_cS h ts pi i S.1 S.2.1 S.2.2.1 S.2.2.2.1 S.2.2.2.2.1 S.2.2.2.2.2
abbrev vu_SP (pi a k : Nat) : Prop := (a = 7 ∧ 8 ≤ k) ∨ (17 ≤ a ∧ a ≤ 20) ∨ (pi ≤ a ∧ a < pi + 289 ∧ (a ≠ pi + 6 ∨ k ≠ 0))
section
variable {d i n m pi : Nat} {h h1 g : ve_H} {ts : vy_T} {S : vu_S} {x : Int}
theorem vu_SP_c (hn : n ≤ 30) {a k : Nat} (q : vu_Sc pi n a k) : vu_SP pi a k := by
  rcases q with (q | q | q | q | q | q) | q | q <;> omega
theorem vc_162b (hT : vx_T 1 625 h) (ok : vy_ok ts) (K : vt_kc h 0 ts) (h9 : vx_J h 7 9 = i) (hi : i < ts.length) : vx_CI d 162 [.ref 7] h (fun r h1 => h1 = h ∧ r = vy_k ts i) := by
  have hl := ok.2.1
  refine vg_162 hT ?_
  rw [h9, Int.toNat_natCast]
  exact ⟨by omega, rfl, (vy_kc K hi).1⟩
theorem vu_cP_nx {q : Nat × vy_V × vy_F × ((Int × (Nat → Int)) ⊕ vu_R)} {r : Int} (h2 : vu_cP ts pi S.2.2.1 S.2.2.2.1 S.2.2.2.2.1 S.2.2.2.2.2 (.inr q) h r h1) : r = 1 ∧ vu_cT h1 ts pi q.1 (vu_nx S q) := by
  obtain ⟨j, Pd, F, K⟩ := q
  obtain ⟨-, r1, b⟩ := h2
  cases K with
  | inl f => exact ⟨r1, b⟩
  | inr R => exact ⟨r1, b⟩
theorem vu_pl_s : vu_pl ts (m + 1) i S = if vy_k ts i = 0 then .inr S else match vu_cs ts S.2.2.1 i S.1 S.2.1 with
    | .inl p => .inl p
    | .inr q => vu_pl ts m q.1 (vu_nx S q) := rfl
theorem vc_145_14 {P : ve_H → Prop} {R0 : Int ⊕ vu_S} (ok : vy_ok ts) (ok2 : vy_ok2 ts) (hp : vx_o 1 625 5 pi) (B : ∀ p g, R0 = .inl p → vx_T 1 625 g → vx_fr (vu_SP pi) h g → vy_bad p g → P g)
    (G : ∀ S' i' g, R0 = .inr S' → vx_T 1 625 g → vx_fr (vu_SP pi) h g → vu_cT g ts pi i' S' → (((vx_J g 7 11) = 0 → vx_CV (d + 6) 139 [.ref pi] g (fun h4 => vx_T 1 625 h4 → vx_CI (d + 6) 140 [.ref pi] h4 (fun r5 h5 => vx_T 1 625 h5 → ((r5 = ((-1)) → vx_CV (d + 6) 142 [.ref pi] h5 (fun h7 => vx_T 1 625 h7 → P h7)) ∧ (r5 ≠ ((-1)) → vx_CV (d + 6) 167 [.ref 7, .int (vx_i 4), .int (vx_i r5)] h5 (fun h8 => vx_T 1 625 h8 → P h8)))))) ∧ ((vx_J g 7 11) ≠ 0 → P g))) :
    ∀ (m i : Nat) (S : vu_S) (g : ve_H) (z : Int), z = 600 - (m : Int) → m ≤ 600 → vx_T 1 625 g → vx_fr (vu_SP pi) h g → vu_cT g ts pi i S → vu_pl ts m i S = R0 → vx_W (d + 6 + 1) 145 14 [some (.ref 7), some (.ref pi), some (.int (vx_i 1)), some (.int (vx_i z))] [] g (vx_RV P) := by
  intro m
  induction m with
  | zero =>
    intro i S g z hz hm hT f C e
    exact vg_145_14 hp hT ⟨by omega, fun _ => G S i g e.symm hT f C, fun q => absurd q (by omega)⟩
  | succ m ih =>
    intro i S g z hz hm hT f C e
    refine vg_145_14 hp hT ⟨by omega, fun q => absurd q (by omega), fun _ => ⟨by decide, fun q => absurd q (by decide), fun _ => vx_CI_mono (vc_162b hT ok C.1 C.2.1 C.2.2.1) ?_⟩⟩
    rintro r17 h17 _ ⟨rfl, rfl⟩ T17
    rw [vu_pl_s] at e
    refine ⟨fun q0 => G S i h17 (by rw [← e, if_pos q0]) hT f C, fun q0 => vx_CI_mono (vc_150 (d := d) hT ok ok2 C) ?_⟩
    rw [if_neg q0] at e
    rintro r25 h25 _ p25 T25
    have f25 : vx_fr (vu_SP pi) h h25 := vx_fr_trans f (vx_fr_mono p25.1 (fun a k q => vu_SP_c C.2.2.2.2.2.2.2.2.2.1 q))
    cases ec : vu_cs ts S.2.2.1 i S.1 S.2.1 with
    | inl p =>
      rw [ec] at e p25
      obtain ⟨-, rfl, b⟩ := p25
      have e : (.inl p : Int ⊕ vu_S) = R0 := e
      have TB : (((vx_J h25 7 11) = 0 → vx_CV (d + 6) 139 [.ref pi] h25 (fun h4 => vx_T 1 625 h4 → vx_CI (d + 6) 140 [.ref pi] h4 (fun r5 h5 => vx_T 1 625 h5 → ((r5 = ((-1)) → vx_CV (d + 6) 142 [.ref pi] h5 (fun h7 => vx_T 1 625 h7 → P h7)) ∧ (r5 ≠ ((-1)) → vx_CV (d + 6) 167 [.ref 7, .int (vx_i 4), .int (vx_i r5)] h5 (fun h8 => vx_T 1 625 h8 → P h8)))))) ∧ ((vx_J h25 7 11) ≠ 0 → P h25)) := ⟨fun t => absurd (b.1.symm.trans t) (by decide), fun _ => B p h25 e.symm T25 f25 b⟩
      exact vg_145_14 hp T25 ⟨by omega, fun _ => TB, fun _ => ⟨by decide, fun _ => TB, fun t => absurd rfl t⟩⟩
    | inr q =>
      rw [ec] at e p25
      obtain ⟨rfl, C25⟩ := vu_cP_nx p25
      exact ih q.1 (vu_nx S q) h25 (z + 1) (by omega) (by omega) T25 f25 C25 e
theorem vc_148 {c : Nat → Int} {n : Nat} (hT : vx_T 1 625 h) (X : vt_tx h n c) (hp : vx_o 1 625 5 pi) (hx : x = 0 ∨ x = 1) : vx_CV (d + 5) 148 [.ref 7, .ref pi, .int (vx_i x)] h (fun h1 => vx_fr (fun a k => (a = 7 ∧ (k = 6 ∨ k = 7 ∨ k = 9 ∨ k = 11 ∨ k = 12)) ∨ vt_S 0 a k) h h1 ∧ ve_R h1 7 6 = some pi ∧ vx_J h1 7 7 = x ∧ vx_J h1 7 9 = 0 ∧ vx_J h1 7 11 = 0 ∧ vx_J h1 7 12 = 0 ∧ vt_kc h1 0 (vt_toks c n 600 0)) := by
  refine vg_148 hp hT (fun h1 e1 T1 => ⟨hx, fun h2 e2 T2 h4 e4 T4 h5 e5 T5 h6 e6 T6 => ?_⟩)
  have f6 : vx_fr (fun a k => a = 7 ∧ (k = 6 ∨ k = 7 ∨ k = 9 ∨ k = 11 ∨ k = 12)) h h6 := vx_fr_sJ (vx_fr_sJ (vx_fr_sJ (vx_fr_sJ (vx_fr_sR vx_fr_refl e1 (by omega)) e2 (by omega)) e4 (by omega)) e5 (by omega)) e6 (by omega)
  have R6 : ve_R h6 7 6 = some pi := by
    have f2 : vx_fr (fun a k => a = 7 ∧ (k = 7 ∨ k = 9 ∨ k = 11 ∨ k = 12)) h1 h6 := vx_fr_sJ (vx_fr_sJ (vx_fr_sJ (vx_fr_sJ vx_fr_refl e2 (by omega)) e4 (by omega)) e5 (by omega)) e6 (by omega)
    exact (vx_fr_R f2 (by omega)).trans (vx_Rsm e1)
  have j7 : vx_J h6 7 7 = x := by rw [e6, vx_J_ne (by omega), e5, vx_J_ne (by omega), e4, vx_J_ne (by omega), e2, vx_J_eq (by omega)]
  have j9 : vx_J h6 7 9 = 0 := by rw [e6, vx_J_ne (by omega), e5, vx_J_ne (by omega), e4, vx_J_eq (by decide)]
  have j11 : vx_J h6 7 11 = 0 := by rw [e6, vx_J_ne (by omega), e5, vx_J_eq (by decide)]
  have j12 : vx_J h6 7 12 = 0 := by rw [e6, vx_J_eq (by decide)]
  have X6 : vt_tx h6 n c := ⟨(vx_fr_J f6 (by simp)).trans X.1, X.2.1, fun i hi => ⟨(vx_fr_J f6 (by simp)).trans (X.2.2 i hi).1, (X.2.2 i hi).2⟩⟩
  refine vx_CV_mono (vc_194 (d := d) T6 X6) ?_
  rintro h7 ⟨f7, k7, -⟩ T7
  exact ⟨vx_fr_trans (vx_fr_mono f6 (fun a k q => Or.inl q)) (vx_fr_mono f7 (fun a k q => Or.inr q)), (vx_fr_R f7 (by simp)).trans R6, (vx_fr_J f7 (by simp)).trans j7, (vx_fr_J f7 (by simp)).trans j9, (vx_fr_J f7 (by simp)).trans j11, (vx_fr_J f7 (by simp)).trans j12, k7⟩
theorem vc_135 {rr : Nat → Nat → Int} (hT : vx_T 1 625 h) (hp : vx_o 1 625 5 pi) (hw : vx_J h (pi + 6) 0 = (5 : Nat)) : vx_CV (d + 2) 135 [.ref pi] h (fun h1 => vx_fr (fun a k => (a = pi ∧ (k = 6 ∨ k = 7)) ∨ vr_W (pi + 6) a k) h h1 ∧ vx_J h1 pi 6 = 0 ∧ vx_J h1 pi 7 = 0 ∧ vr_P (pi + 6) 5 0 rr h1) := by
  have N := (vu_nW (n := 0) (o := pi + 10) (by omega) rfl hp)
  refine vg_135 hp hT (fun h1 e1 T1 h2 e2 T2 => ?_)
  rw [(vx_po hp).2.2.2.2.2.1]
  have f2 : vx_fr (fun a k => a = pi ∧ (k = 6 ∨ k = 7)) h h2 := vx_fr_sJ (vx_fr_sJ vx_fr_refl e1 (by omega)) e2 (by omega)
  refine vx_CV_mono (vc_172 (d := d) (rr := rr) T2 (vu_fK hp).1 ((vx_fr_J f2 (by omega)).trans hw)) ?_
  rintro h3 ⟨f3, p3⟩ T3
  refine ⟨vx_fr_trans (vx_fr_mono f2 (fun a k q => Or.inl q)) (vx_fr_mono f3 (fun a k q => Or.inr q)), (vx_fr_J f3 N.2.1.2.2.2.2).trans ?_, (vx_fr_J f3 N.2.2).trans ?_, p3⟩
  · rw [e2, vx_J_ne (by omega), e1, vx_J_eq (by decide)]
  · rw [e2, vx_J_eq (by decide)]
end
