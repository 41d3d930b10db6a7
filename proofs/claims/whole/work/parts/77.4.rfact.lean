/-! fact: the reference -/
section
variable {d i n m sd cnt : Nat} {h h1 g : ve_H} {V Pd : vy_V} {O : vy_O} {F : vy_F} {c : Nat → Int} {rr : Nat → Nat → Int} {x : Int}
theorem vc_63n (hT : vx_T 625 672 h) (hx : vx_rI x) (hn : x < 0 ∨ 1 < x) : vx_CI (d + 1) 63 [.ref 625, .int (vx_i x)] h (fun r h1 => vx_fr (fun a k => a = 625 ∧ (k = 0 ∨ k = 2 ∨ k = 3 ∨ k = 4)) h h1 ∧ r = 0 ∧ vx_J h1 625 0 = 1 ∧ vx_J h1 625 2 = 0 ∧ vy_rf h1 (0, 0)) := by
  have E : ∀ h1 h4 h5 h6 : ve_H, h1 = vx_sJ h 625 0 1 → h4 = vx_sJ h1 625 3 0 → h5 = vx_sJ h4 625 4 0 → h6 = vx_sJ h5 625 2 0 → vx_fr (fun a k => a = 625 ∧ (k = 0 ∨ k = 2 ∨ k = 3 ∨ k = 4)) h h6 ∧ (0 : Int) = 0 ∧ vx_J h6 625 0 = 1 ∧ vx_J h6 625 2 = 0 ∧ vy_rf h6 (0, 0) := by
    intro h1 h4 h5 h6 e1 e4 e5 e6
    refine ⟨vx_fr_sJ (vx_fr_sJ (vx_fr_sJ (vx_fr_sJ vx_fr_refl e1 (by omega)) e4 (by omega)) e5 (by omega)) e6 (by omega), rfl, ?_, ?_, ?_, ?_⟩
    · rw [e6, vx_J_ne (by omega), e5, vx_J_ne (by omega), e4, vx_J_ne (by omega), e1, vx_J_eq (by decide)]
    · rw [e6, vx_J_eq (by decide)]
    · rw [e6, vx_J_ne (by omega), e5, vx_J_ne (by omega), e4, vx_J_eq (by decide)]
    · rw [e6, vx_J_ne (by omega), e5, vx_J_eq (by decide)]
  exact vg_63 hT (fun h1 e1 T1 => ⟨hx, fun _ h4 e4 T4 h5 e5 T5 h6 e6 T6 => E h1 h4 h5 h6 e1 e4 e5 e6, fun q => ⟨fun q2 => by omega, fun _ h4 e4 T4 h5 e5 T5 h6 e6 T6 => E h1 h4 h5 h6 e1 e4 e5 e6⟩⟩)
/-- the reference begins to read a fact or a question -/
theorem vu_rbeg {P : ve_H → Prop} (hT : vx_T 625 672 h) (X : vt_tr h n c) (hsd : sd < 2) (c11 : vx_J h 625 11 = sd) (Rp : vy_rp h sd Pd) (K : ∀ h4, vx_T 625 672 h4 → vx_fr (vu_SW sd) h h4 → vx_fr (fun a k => (a = 625 ∧ (k = 2 ∨ k = 3 ∨ k = 4 ∨ k = 5 ∨ k = 10 ∨ k = 42 ∨ k = 48 ∨ k = 49 ∨ k = 53 ∨ k = 54)) ∨ (627 ≤ a ∧ a ≤ 630) ∨ ((a = 639 ∨ a = 641 ∨ a = 642) ∧ k = 60)) h h4 → vx_J h4 625 2 = 0 → vy_rr h4 (vt_toks c n 600 0) 60 sd false 0 vu_V0 vu_O0 Pd (0, 0) → vy_fi h4 (vt_toks c n 600 0) 0 vu_V0 vu_O0 → vx_J h4 641 60 = 0 → vx_J h4 639 60 = 0 → P h4) :
    vx_CV (d + 4) 61 [.ref 625] h (fun h1 => vx_T 625 672 h1 → (∀ h2, h2 = vx_sJ h1 625 48 (vx_J h1 625 11) → vx_T 625 672 h2 → (∀ h3, h3 = vx_sJ h2 625 49 0 → vx_T 625 672 h3 → vx_CV (d + 4) 51 [.ref 625, .int (vx_i 60)] h3 (fun h4 => vx_T 625 672 h4 → P h4)))) := by
  obtain ⟨ok, -, -⟩ := vt_toks_ok X.2.1 (fun j hj => (X.2.2 j hj).2)
  refine vx_CV_mono (vc_61 (d := d) hT X) ?_
  rintro h1 ⟨f1, j2, j3, j4, j10, k1⟩ T1 h2 e2 T2 h3 e3 T3
  rw [vx_fr_J f1 (by simp), c11] at e2
  have f3 : vx_fr (fun a k => a = 625 ∧ (k = 48 ∨ k = 49)) h1 h3 := vx_fr_sJ (vx_fr_sJ vx_fr_refl e2 (by omega)) e3 (by omega)
  have a48 : vx_J h3 625 48 = sd := by rw [e3, vx_J_ne (by omega), e2, vx_J_eq (by omega)]
  have a49 : vx_J h3 625 49 = 0 := by rw [e3, vx_J_eq (by decide)]
  refine vx_CV_mono (vc_51 (d := d + 4) (c := 60) T3 rfl (by omega)) ?_
  rintro h4 ⟨f4, b42, b642, b641, b639, b54, b53⟩ T4
  have FF : vx_fr (fun a k => (a = 625 ∧ (k = 2 ∨ k = 3 ∨ k = 4 ∨ k = 5 ∨ k = 10 ∨ k = 42 ∨ k = 48 ∨ k = 49 ∨ k = 53 ∨ k = 54)) ∨ (627 ≤ a ∧ a ≤ 630) ∨ ((a = 639 ∨ a = 641 ∨ a = 642) ∧ k = 60)) h h4 := vx_fr_trans (vx_fr_mono f1 (fun a k q => by omega)) (vx_fr_trans (vx_fr_mono f3 (fun a k q => by omega)) (vx_fr_mono f4 (fun a k q => by omega)))
  have SS : vx_fr (vu_SW sd) h h4 := vx_fr_mono FF (fun a k q => by
    rcases q with q | q | q
    · exact vu_SW_5 (by omega)
    · exact vu_SW_t q
    · exact vu_SW_f (vu_Sf_b (Or.inr q)))
  refine K h4 T4 SS FF ((vx_fr_J f4 (by simp)).trans ((vx_fr_J f3 (by simp)).trans j2)) ⟨⟨vy_kr_fr (vy_kr_fr k1 f3 (fun k => by simp)) f4 (fun k => by simp), (vx_fr_J f4 (by simp)).trans ((vx_fr_J f3 (by simp)).trans j10), ok.1, b42, by decide, by rw [b642]; rfl, by decide, fun v hv => absurd (show v < 0 from hv) (by omega)⟩, ⟨b54, fun t => absurd rfl t, Or.inl rfl⟩, (vx_fr_J f4 (by simp)).trans a48, (vx_fr_J f4 (by simp)).trans a49, vy_rp_fr (vy_rp_fr (vy_rp_fr Rp f1 (by simp)) f3 (by simp)) f4 (by simp), ⟨(vx_fr_J f4 (by simp)).trans ((vx_fr_J f3 (by simp)).trans j3), (vx_fr_J f4 (by simp)).trans ((vx_fr_J f3 (by simp)).trans j4)⟩, by decide⟩ ⟨b53, fun t => absurd rfl t, fun v hv => absurd (show v < 0 from hv) (by omega)⟩ b641 b639
end
