/-! Programs: the reference reads them -/
def vu_rT (h : ve_H) (ts : vy_T) (sd i : Nat) (S : vu_S) : Prop := vu_rS h ts sd i S.1 S.2.1 S.2.2.1 S.2.2.2.1 S.2.2.2.2.1 S.2.2.2.2.2
theorem vy_k0 {kd ct kr cr vr : Int} (R : vt_rt kd ct kr cr vr) : kr = 0 ↔ kd = 0 := by
  obtain ⟨r0, r1, r2, r3, r4, r5, r6, r7, r8, -⟩ := R
  refine ⟨fun t => ?_, r0⟩
  by_cases h0 : kd = 0
  · exact h0
  exfalso
  by_cases h1 : kd = 1
  · have := r1 h1; omega
  by_cases h2 : kd = 2
  · have := (r2 h2).1; omega
  by_cases h3 : kd = 3
  · have := (r3 h3).1; omega
  by_cases h4 : kd = 4
  · have := (r4 h4).1; omega
  by_cases h5 : kd ≤ 9
  · have := (r5 ⟨by omega, h5⟩).1; omega
  by_cases h6 : kd ≤ 13
  · have := (r6 ⟨by omega, h6⟩).1; omega
  · have := (r7 (by omega)).1; omega
/-- the reference behind a program's reading -/
def vu_rE (sd : Nat) (R : vy_F ⊕ vu_S) (h : ve_H) : Prop := match R with
  | .inl F => F.1 ≠ 0 ∧ vy_rf h F
  | .inr S => vy_rf h S.2.1 ∧ S.2.1.1 = 0 ∧ vu_rg h sd S.1 S.2.2.1 S.2.2.2.1 ∧ vx_J h 647 sd = (S.2.2.2.2.1 : Nat) ∧ (∀ j, j < S.2.2.2.2.1 → vu_rf h (400 * sd + j) S.1 (S.2.2.2.2.2 j)) ∧ ∃ s, vs_lst s S.2.2.1 S.2.2.2.1 ∧ vs_rs h sd s
abbrev vu_SR (sd a k : Nat) : Prop := vu_Sk sd a k ∨ a = 663 ∨ (a = 634 ∧ 16 * sd ≤ k ∧ k < 16 * sd + 16)
abbrev vu_SU (sd a k : Nat) : Prop := vu_SR sd a k ∨ (a = 625 ∧ (k = 0 ∨ k = 2 ∨ k = 3 ∨ k = 4 ∨ k = 5 ∨ k = 10 ∨ k = 48 ∨ k = 49)) ∨ (627 ≤ a ∧ a ≤ 630)
section
variable {d i n m sd : Nat} {h h1 g : ve_H} {c : Nat → Int} {ts : vy_T} {S : vu_S} {x : Int}
theorem vc_20 (hT : vx_T 625 672 h) (hx : vx_rI x) : vx_CI d 20 [.ref 625, .int (vx_i x)] h (fun r h1 => r = 0 ∧ vx_fr (fun a k => a = 625 ∧ k = 0) h h1 ∧ vx_J h1 625 0 = x) :=
  vg_20 hT (fun h1 e1 T1 => ⟨rfl, vx_fr_sJ vx_fr_refl e1 ⟨rfl, rfl⟩, by rw [e1, vx_J_eq hx]⟩)
theorem vc_61 (hT : vx_T 625 672 h) (X : vt_tr h n c) : vx_CV (d + 4) 61 [.ref 625] h (fun h1 => vx_fr (fun a k => (a = 625 ∧ (k = 2 ∨ k = 3 ∨ k = 4 ∨ k = 5 ∨ k = 10)) ∨ (627 ≤ a ∧ a ≤ 630)) h h1 ∧ vx_J h1 625 2 = 0 ∧ vx_J h1 625 3 = 0 ∧ vx_J h1 625 4 = 0 ∧ vx_J h1 625 10 = 0 ∧ vt_kr h1 0 (vt_toks c n 600 0)) := by
  refine vg_61 hT (fun h1 e1 T1 h2 e2 T2 => ?_)
  have f2 : vx_fr (fun a k => a = 625 ∧ (k = 3 ∨ k = 4)) h h2 := vx_fr_sJ (vx_fr_sJ vx_fr_refl e1 (by omega)) e2 (by omega)
  have X2 : vt_tr h2 n c := ⟨(vx_fr_J f2 (by simp)).trans X.1, X.2.1, fun i hi => ⟨(vx_fr_J f2 (by simp)).trans (X.2.2 i hi).1, (X.2.2 i hi).2⟩⟩
  refine vx_CV_mono (vc_30 (d := d) T2 X2) ?_
  rintro h3 ⟨f3, k3, -⟩ T3 h4 e4 T4 h5 e5 T5
  have f5 : vx_fr (fun a k => a = 625 ∧ (k = 2 ∨ k = 10)) h3 h5 := vx_fr_sJ (vx_fr_sJ vx_fr_refl e4 (by omega)) e5 (by omega)
  refine ⟨vx_fr_trans (vx_fr_mono f2 (fun a k q => by omega)) (vx_fr_trans (vx_fr_mono f3 (fun a k q => by omega)) (vx_fr_mono f5 (fun a k q => by omega))), ?_, (vx_fr_J f5 (by simp)).trans ((vx_fr_J f3 (by simp)).trans ?_), (vx_fr_J f5 (by simp)).trans ((vx_fr_J f3 (by simp)).trans ?_), ?_, vy_kr_fr k3 f5 (fun k => by simp)⟩
  · rw [e5, vx_J_ne (by omega), e4, vx_J_eq (by decide)]
  · rw [e2, vx_J_ne (by omega), e1, vx_J_eq (by decide)]
  · rw [e2, vx_J_eq (by decide)]
  · rw [e5, vx_J_eq (by decide)]
theorem vu_rP_nx {q : Nat × vy_V × vy_F × ((Int × (Nat → Int)) ⊕ vu_R)} {r : Int} (h2 : vu_rP ts sd S.2.2.1 S.2.2.2.1 S.2.2.2.2.1 S.2.2.2.2.2 (.inr q) h r h1) : r = 1 ∧ vu_rT h1 ts sd q.1 (vu_nx S q) := by
  obtain ⟨j, Pd, F, K⟩ := q
  obtain ⟨-, r1, b⟩ := h2
  cases K with
  | inl f => exact ⟨r1, b⟩
  | inr R => exact ⟨r1, b⟩
def vu_tl (d : Nat) (P : Int → ve_H → Prop) (g : ve_H) : Prop := (((vx_J g 625 3) ≠ 0 → vx_CI d 20 [.ref 625, .int (vx_i 1)] g (fun r17 h17 => vx_T 625 672 h17 → P r17 h17)) ∧ ((vx_J g 625 3) = 0 → vx_CV d 59 [.ref 625] g (fun h18 => vx_T 625 672 h18 → (((vx_J h18 625 3) = 0 → vx_CV d 60 [.ref 625] h18 (fun h20 => vx_T 625 672 h20 → (∀ h21, h21 = vx_sJ h20 625 0 0 → vx_T 625 672 h21 → (∀ h22, h22 = vx_sJ h21 625 11 (vx_J h21 625 48) → vx_T 625 672 h22 → (∀ h23, h23 = vx_sJ h22 625 31 0 → vx_T 625 672 h23 → (∀ h24, h24 = vx_sJ h23 625 32 0 → vx_T 625 672 h24 → (0 ≤ (vx_J h21 625 48) ∧ (vx_J h21 625 48) < 2) ∧ P (vx_J h24 635 (vx_J h21 625 48).toNat) h24)))))) ∧ ((vx_J h18 625 3) ≠ 0 → vx_CI d 20 [.ref 625, .int (vx_i 1)] h18 (fun r26 h26 => vx_T 625 672 h26 → P r26 h26))))))
theorem vc_62_51 {P : Int → ve_H → Prop} {R0 : Int ⊕ vu_S} (ok : vy_ok ts) (ok2 : vy_ok2 ts) (hsd : sd < 2) (B : ∀ p g, R0 = .inl p → vx_T 625 672 g → vx_fr (vu_Sk sd) h g → vy_rbad p g → vu_tl (d + 7) P g)
    (G : ∀ S' i' g, R0 = .inr S' → vx_T 625 672 g → vx_fr (vu_Sk sd) h g → vu_rT g ts sd i' S' → vu_tl (d + 7) P g) :
    ∀ (m i : Nat) (S : vu_S) (g : ve_H), 600 ≤ i + m → vx_T 625 672 g → vx_fr (vu_Sk sd) h g → vu_rT g ts sd i S → vu_pl ts m i S = R0 → vx_W (d + 7 + 1) 62 51 [some (.ref 625), some (.int (vx_i 1))] [] g (vx_RI P) := by
  intro m
  have hl := ok.2.1
  induction m with
  | zero =>
    intro i S g hm hT f C e
    have hi := C.2.2.1
    refine vg_62_51 hT ?_
    rw [C.2.1, Int.toNat_natCast]
    have k0 : vy_k ts i = 0 := (ok.2.2.1 i hi).mpr (by omega)
    refine ⟨by decide, fun q => absurd q (by decide), fun _ => ⟨by omega, fun _ => G S i g e.symm hT f C, fun q => absurd ((vy_k0 (vy_kr C.1 hi).2).mpr k0) q⟩⟩
  | succ m ih =>
    intro i S g hm hT f C e
    have hi := C.2.2.1
    rw [vu_pl_s] at e
    refine vg_62_51 hT ?_
    rw [C.2.1, Int.toNat_natCast]
    have k0 := vy_k0 (vy_kr C.1 hi).2
    refine ⟨by decide, fun q => absurd q (by decide), fun _ => ⟨by omega, fun q => G S i g (by rw [← e, if_pos (k0.mp q)]) hT f C, fun q => vx_CI_mono (vc_55 (d := d) hT ok ok2 C) ?_⟩⟩
    rw [if_neg (fun t => q (k0.mpr t))] at e
    rintro r27 h27 _ p27 T27
    have f27 : vx_fr (vu_Sk sd) h h27 := vx_fr_trans f p27.1
    cases ec : vu_cs ts S.2.2.1 i S.1 S.2.1 with
    | inl p =>
      rw [ec] at e p27
      obtain ⟨-, rfl, b⟩ := p27
      have e : (.inl p : Int ⊕ vu_S) = R0 := e
      exact vg_62_51 T27 ⟨by decide, fun _ => B p h27 e.symm T27 f27 b, fun t => absurd rfl t⟩
    | inr q =>
      rw [ec] at e p27
      obtain ⟨rfl, C27⟩ := vu_rP_nx p27
      have := vu_cs_i ec
      exact ih q.1 (vu_nx S q) h27 (by omega) T27 f27 C27 e
end
