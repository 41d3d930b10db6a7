/-! Facts and questions that are read alone: the class -/
abbrev vu_SF (a k : Nat) : Prop := (a = 7 ∧ 6 ≤ k) ∨ (a = 2 ∧ k = 5) ∨ (4 ≤ a ∧ a ≤ 6) ∨ (8 ≤ a ∧ a ≤ 20)
theorem vu_o8 : vx_o 1 625 7 8 := by decide +kernel
theorem vu_SF_m {pi a k : Nat} (q : vy_Sm 8 pi false a k) : vu_SF a k := by
  rcases q with q | q | ⟨q, -⟩
  · rcases q with q | q | q | q | q <;> omega
  · omega
  · cases q
theorem vu_SF_y {pi a k : Nat} (q : vy_Sy 8 pi false a k) : vu_SF a k := by
  obtain ⟨r1, r8, r9, r10, r11, -⟩ := vx_ro vu_o8
  rcases q with q | q | q | q
  · exact vu_SF_m q
  · rcases q with q | q | q | q <;> omega
  · omega
  · omega
theorem vu_SF_p {a k : Nat} (q : vz_Sp 8 a k) : vu_SF a k := by
  obtain ⟨r1, r8, r9, r10, r11, r12, r13, r14, -⟩ := vx_ro vu_o8
  rcases q with q | q | q | q <;> omega
section
variable {d i n m pi : Nat} {h h1 : ve_H} {ts : vy_T} {V Pd : vy_V} {O : vy_O} {F : vy_F} {L : vy_L} {c : Nat → Int}
theorem vc_152 (hT : vx_T 1 625 h) (ok : vy_ok ts) (B : vy_cb h ts 8 i V) : vx_CI (d + 1) 152 [.ref 7] h (fun r h1 => (r = 1 ∧ vy_k ts i = 0 ∧ h1 = h) ∨ (r = 0 ∧ vy_k ts i ≠ 0 ∧ vx_fr (fun a k => a = 7 ∧ (k = 11 ∨ k = 12)) h h1 ∧ vy_bad (vy_p ts i) h1)) := by
  refine vg_152 hT (vx_CI_mono (vc_162 hT ok B) ?_)
  rintro r1 h1 _ ⟨rfl, rfl⟩ T1
  refine ⟨fun q => Or.inl ⟨rfl, q, rfl⟩, fun q => vx_CI_mono (vc_163 T1 ok B) ?_⟩
  rintro r3 h3 hr3 ⟨rfl, rfl⟩ T3
  refine vx_CI_mono (vc_166 T3 hr3) ?_
  rintro r4 h4 _ ⟨rfl, f4, b4⟩ _
  exact ⟨fun _ => Or.inr ⟨rfl, q, f4, b4⟩, fun t => absurd rfl t⟩
/-- the class begins to read a fact or a question -/
theorem vu_beg {P : ve_H → Prop} (hT : vx_T 1 625 h) (X : vt_tx h n c) (hp : vx_o 1 625 5 pi) (C : vy_cp h pi Pd) (K : ∀ h2, vx_T 1 625 h2 → vx_fr vu_SF h h2 → vy_cr h2 (vt_toks c n 600 0) 8 pi false 0 vu_V0 vu_O0 Pd (0, 0) → vx_J h2 8 0 = -1 → vx_J h2 8 6 = 0 → vx_J h2 8 7 = 0 → P h2) :
    vx_CV (d + 5) 148 [.ref 7, .ref pi, .int (vx_i 0)] h (fun h1 => vx_T 1 625 h1 → vx_CV (d + 5) 149 [.ref 7, .ref 8] h1 (fun h2 => vx_T 1 625 h2 → P h2)) := by
  have p39 := (vx_po hp).2.2.2.2.2.2
  obtain ⟨ok, -, -⟩ := vt_toks_ok X.2.1 (fun j hj => (X.2.2 j hj).2)
  refine vx_CV_mono (vc_148 (d := d) hT X hp (Or.inl rfl)) ?_
  rintro h1 ⟨f1, r6, j7, j9, j11, j12, k1⟩ T1
  refine vx_CV_mono (vc_149 (d := d + 4) vu_o8 T1) ?_
  rintro h2 ⟨f2, c8, c0, c2, c5, c6, c7⟩ T2
  have F2 : vx_fr vu_SF h h2 := vx_fr_trans (vx_fr_mono f1 (fun a k q => by rcases q with q | q | q <;> omega)) (vx_fr_mono f2 (fun a k q => by omega))
  have C2 : vy_cp h2 pi Pd := by
    refine vy_cp_fr C F2 ⟨by omega, fun k => ?_⟩
    rw [(vx_po hp).1, (vx_po hp).2.1]
    exact ⟨by omega, by omega⟩
  exact K h2 T2 F2 ⟨⟨vy_kc_fr k1 f2 (fun k => by simp), (vx_fr_J f2 (by simp)).trans j9, ok.1, c8, vu_o8, by rw [c5]; rfl, by decide, fun v hv => absurd (show v < 0 from hv) (by omega)⟩, ⟨c2, fun t => absurd rfl t⟩, (vx_fr_R f2 (by simp)).trans r6, (vx_fr_J f2 (by simp)).trans j7, C2, ⟨(vx_fr_J f2 (by simp)).trans j11, (vx_fr_J f2 (by simp)).trans j12⟩⟩ c0 c6 c7
/-- the class behind a fact's reading -/
def vu_cfE (R : vy_F ⊕ (vy_F × Int × (Nat → Int))) (h : ve_H) : Prop := match R with
  | .inl F => F.1 ≠ 0 ∧ vy_cf h F
  | .inr f => vy_cf h f.1 ∧ ∀ k, k < 5 → vx_K h 18 k = vu_row f.2.1 f.2.2 k
theorem vc_146 (hT : vx_T 1 625 h) (X : vt_tx h n c) (hp : vx_o 1 625 5 pi) (C : vy_cp h pi Pd) : vx_CV (d + 5 + 1) 146 [.ref 7, .ref pi] h (fun h1 => vx_fr vu_SF h h1 ∧ vu_cfE (vu_fc (vt_toks c n 600 0) Pd) h1) := by
  have p39 := (vx_po hp).2.2.2.2.2.2
  obtain ⟨ok, ok2, ok3⟩ := vt_toks_ok X.2.1 (fun j hj => (X.2.2 j hj).2)
  refine vg_146 hp hT (vu_beg (d := d) hT X hp C (fun h2 T2 F2 B2 c0 c6 c7 => ?_))
  obtain ⟨ts, ets⟩ : ∃ ts, ts = vt_toks c n 600 0 := ⟨_, rfl⟩
  rw [← ets] at ok ok2 ok3 B2 ⊢
  refine vx_CI_mono (vc_157 (d := d + 2) (hd := true) (any := false) T2 ok B2 (by decide) ⟨fun _ => rfl, fun _ => rfl⟩ ⟨fun t => absurd t (by decide), fun t => by exfalso; omega⟩) ?_
  rintro r3 h3 _ ⟨f3, p3⟩ T3
  have F3 : vx_fr vu_SF h h3 := vx_fr_trans F2 (vx_fr_mono f3 (fun a k q => vu_SF_m q))
  have bad : ∀ p g g', vx_fr vu_SF h g → vx_fr (fun a k => a = 7 ∧ (k = 11 ∨ k = 12)) g g' → vy_bad p g' → vu_fc ts Pd = .inl (1, p) → vx_fr vu_SF h g' ∧ vu_cfE (vu_fc ts Pd) g' := fun p g g' f0 f1 b e => by
    rw [e]; exact ⟨vx_fr_trans f0 (vx_fr_mono f1 (fun a k q => by omega)), show (1 : Int) ≠ 0 by decide, b⟩
  cases e : vy_am ts false true false 0 vu_V0 vu_O0 Pd (0, 0) with
  | inl p =>
    rw [e] at p3
    exact ⟨fun _ => bad p h3 h3 F3 vx_fr_refl p3.2 (by unfold vu_fc; rw [e]), fun t => absurd p3.1 t⟩
  | inr q =>
    rw [e] at p3
    obtain ⟨rfl, C3, A3, n3⟩ := p3
    have e0 : vu_fc ts Pd = if vy_k ts q.1 ≠ 46 then .inl (1, vy_p ts q.1)
    else if vy_ff q.2.1 q.2.2.1 ≠ -1 then .inl (1, vy_ff q.2.1 q.2.2.1)
    else if vy_k ts (q.1 + 1) ≠ 0 then .inl (1, vy_p ts (q.1 + 1))
    else if q.2.2.2.2.2.2.2.1 ≠ 0 then .inl q.2.2.2.2.2.2.2
    else .inr (q.2.2.2.2.2.2.2, q.2.2.2.2.2.1, q.2.2.2.1) := by unfold vu_fc; rw [e]
    have Qp := vy_am_p ok vz_pr0 e
    refine ⟨fun t => absurd t (by decide), fun _ => vx_CI_mono (vc_165 (d := d + 4) T3 ok C3.1 (by decide) (by decide)) ?_⟩
    rintro r5 h5 _ (⟨rfl, q46, e5, B5⟩ | ⟨rfl, q46, f5, b5⟩) T5
    rotate_left
    · rw [if_pos q46] at e0
      exact ⟨fun _ => bad _ h3 h5 F3 f5 b5 e0, fun t => absurd rfl t⟩
    rw [if_neg (fun t => t q46)] at e0
    have f5 : vx_fr (fun a k => a = 7 ∧ k = 9) h3 h5 := vx_fr_sJ vx_fr_refl e5 ⟨rfl, rfl⟩
    have C5 := vy_cr_9 vu_o8 hp C3 f5 B5
    have F5 : vx_fr vu_SF h h5 := vx_fr_trans F3 (vx_fr_mono f5 (fun a k q => by omega))
    refine ⟨fun t => absurd t (by decide), fun _ => vx_CI_mono (vc_151 (d := d + 4) T5 C5.1.2.2.2.1 vu_o8 C5.1.2.2.2.2.2.1 (fun v hv => (C5.1.2.2.2.2.2.2.2 v hv).2) C5.2.1 Qp ((vx_fr_J f5 (by simp)).trans n3) (fun k hk => (vx_fr_K f5 (by simp)).trans (A3 k hk))) ?_⟩
    rintro r7 h7 _ (⟨ff, rfl, f7, w7⟩ | ⟨ff, rfl, f7, b7⟩) T7
    rotate_left
    · rw [if_pos ff] at e0
      exact ⟨fun _ => bad _ h5 h7 F5 f7 b7 e0, fun t => absurd rfl t⟩
    rw [if_neg (fun t => t ff)] at e0
    have C7 : vy_cr h7 ts 8 pi false (q.1 + 1) q.2.1 q.2.2.1 q.2.2.2.2.2.2.1 q.2.2.2.2.2.2.2 := by
      refine vy_cr_fr C5 f7 (fun k => ?_) (by omega)
      rw [(vx_po hp).1, (vx_po hp).2.1]
      omega
    have F7 : vx_fr vu_SF h h7 := vx_fr_trans F5 (vx_fr_mono f7 (fun a k q => by omega))
    refine ⟨fun t => absurd t (by decide), fun _ => vx_CI_mono (vc_152 (d := d + 4) T7 ok C7.1) ?_⟩
    rintro r9 h9 _ (⟨rfl, q0, rfl⟩ | ⟨rfl, q0, f9, b9⟩) _
    · rw [if_neg (fun t => t q0)] at e0
      rw [e0]
      refine ⟨F7, ?_⟩
      by_cases z : q.2.2.2.2.2.2.2.1 ≠ 0
      · rw [if_pos z]; exact ⟨z, C7.2.2.2.2.2⟩
      · rw [if_neg z]; exact ⟨C7.2.2.2.2.2, w7⟩
    · rw [if_pos q0] at e0
      exact bad _ h7 h9 F7 f9 b9 e0
/-- the class behind a question's reading -/
def vu_cqE (R : vy_F ⊕ (vy_F × Nat × vy_L)) (h : ve_H) : Prop := match R with
  | .inl F => F.1 ≠ 0 ∧ vy_cf h F
  | .inr f => vy_cf h f.1 ∧ ∃ A, vu_cr h 8 (-1, A, vu_O0, f.2.1, f.2.2)
theorem vc_147 (hT : vx_T 1 625 h) (X : vt_tx h n c) (hp : vx_o 1 625 5 pi) (C : vy_cp h pi Pd) : vx_CV (d + 5 + 1) 147 [.ref 7, .ref pi] h (fun h1 => vx_fr vu_SF h h1 ∧ vu_cqE (vu_qc (vt_toks c n 600 0) Pd) h1) := by
  have p39 := (vx_po hp).2.2.2.2.2.2
  obtain ⟨ok, ok2, ok3⟩ := vt_toks_ok X.2.1 (fun j hj => (X.2.2 j hj).2)
  refine vg_147 hp hT (vu_beg (d := d) hT X hp C (fun h2 T2 F2 B2 c0 c6 c7 => ?_))
  obtain ⟨ts, ets⟩ : ∃ ts, ts = vt_toks c n 600 0 := ⟨_, rfl⟩
  rw [← ets] at ok ok2 ok3 B2 ⊢
  have L2 : vy_cl h2 8 vu_L0 := ⟨c6, by decide, fun i hi => absurd (show i < 0 from hi) (by omega)⟩
  refine vx_CI_mono (vc_154 (d := d) T2 ok ⟨B2, L2, c7, by decide⟩ rfl) ?_
  rintro r3 h3 _ ⟨f3, p3⟩ T3
  have F3 : vx_fr vu_SF h h3 := vx_fr_trans F2 (vx_fr_mono f3 (fun a k q => vu_SF_y q))
  have bad : ∀ p g g', vx_fr vu_SF h g → vx_fr (fun a k => a = 7 ∧ (k = 11 ∨ k = 12)) g g' → vy_bad p g' → vu_qc ts Pd = .inl (1, p) → vx_fr vu_SF h g' ∧ vu_cqE (vu_qc ts Pd) g' := fun p g g' f0 f1 b e => by
    rw [e]; exact ⟨vx_fr_trans f0 (vx_fr_mono f1 (fun a k q => by omega)), show (1 : Int) ≠ 0 by decide, b⟩
  cases e : vy_bo ts false vu_O0 6 0 vu_V0 Pd (0, 0) vu_L0 0 with
  | inl p =>
    rw [e] at p3
    exact ⟨fun _ => bad p h3 h3 F3 vx_fr_refl p3.2 (by unfold vu_qc; rw [e]), fun t => absurd p3.1 t⟩
  | inr u =>
    rw [e] at p3
    obtain ⟨rfl, C3, L3, -, -⟩ := p3
    have e0 : vu_qc ts Pd = if vy_k ts u.1 ≠ 63 then .inl (1, vy_p ts u.1)
    else if vy_k ts (u.1 + 1) ≠ 0 then .inl (1, vy_p ts (u.1 + 1))
    else if (vz_un (vz_s u.2.2.2.2.1) u.2.1 u.2.2.2.1 u.2.1.1).1 ≠ 0 then .inl (vz_un (vz_s u.2.2.2.2.1) u.2.1 u.2.2.2.1 u.2.1.1)
    else .inr (vz_un (vz_s u.2.2.2.2.1) u.2.1 u.2.2.2.1 u.2.1.1, u.2.1.1, u.2.2.2.2.1) := by unfold vu_qc; rw [e]
    have Z0 : vz_wf vu_O0.1 vu_V0.1 vu_L0 := fun j hj => absurd (show j < 0 from hj) (by omega)
    have Uw := vy_bo_w ok ok2 6 0 _ _ _ _ _ (show vu_V0.1 ≤ 8 by decide) Z0 e
    refine ⟨fun t => absurd t (by decide), fun _ => vx_CI_mono (vc_165 (d := d + 4) T3 ok C3.1 (by decide) (by decide)) ?_⟩
    rintro r5 h5 _ (⟨rfl, q63, e5, B5⟩ | ⟨rfl, q63, f5, b5⟩) T5
    rotate_left
    · rw [if_pos q63] at e0
      exact ⟨fun _ => bad _ h3 h5 F3 f5 b5 e0, fun t => absurd rfl t⟩
    rw [if_neg (fun t => t q63)] at e0
    have f5 : vx_fr (fun a k => a = 7 ∧ k = 9) h3 h5 := vx_fr_sJ vx_fr_refl e5 ⟨rfl, rfl⟩
    have C5 := vy_cr_9 vu_o8 hp C3 f5 B5
    have L5 := vy_cl_9 vu_o8 L3 f5
    have F5 : vx_fr vu_SF h h5 := vx_fr_trans F3 (vx_fr_mono f5 (fun a k q => by omega))
    refine ⟨fun t => absurd t (by decide), fun _ => vx_CI_mono (vc_152 (d := d + 4) T5 ok C5.1) ?_⟩
    rintro r7 h7 _ (⟨rfl, q0, rfl⟩ | ⟨rfl, q0, f7, b7⟩) T7
    rotate_left
    · rw [if_pos q0] at e0
      exact ⟨fun _ => bad _ h5 h7 F5 f7 b7 e0, fun t => absurd rfl t⟩
    rw [if_neg (fun t => t q0)] at e0
    have o0 : vx_J h7 8 0 = -1 := by
      refine (vx_fr_J f5 (by simp)).trans ((vx_fr_J f3 ?_).trans c0)
      obtain ⟨r1, r8, r9, r10, r11, -⟩ := vx_ro vu_o8
      rintro (q | q | q | q)
      · rcases q with q | q | ⟨q, -⟩
        · rcases q with q | q | q | q | q <;> omega
        · omega
        · cases q
      · rcases q with q | q | q | q <;> omega
      · omega
      · omega
    refine ⟨fun t => absurd t (by decide), fun _ => ⟨8, C5.1.2.2.2.1, vu_o8, vx_CI_mono (vc_185 (d := d + 1) vu_o8 T7 L5 C5.1.2.2.2.2.2.1 C5.1.2.2.2.2.2.2.1 C5.2.1.1) ?_⟩⟩
    rintro r10 h10 _ ⟨G, hG, hg, P10⟩ T10
    obtain ⟨n', σ, b, d1, d2, d3, d4, d5, d6⟩ := P10.2
    have hr10 : 0 ≤ r10 ∧ r10 < 256 := by rw [d3]; exact (d2.2.1 n' (Nat.le_refl _)).1
    obtain ⟨r1, r8, r9, r10', r11, r12, r13, r14, -⟩ := vx_ro vu_o8
    have NS : ∀ a k, ¬ (a = 14 ∨ a = 15 ∨ a = 16 ∨ (a = 8 ∧ k = 15)) → ¬ vz_Sp 8 a k := fun a k q t => q (by rcases t with t | t | t | t <;> omega)
    refine vx_CV_mono (vc_153 (d := d + 4) (V := u.2.1) (F := u.2.2.2.1) T10 hr10 ((vx_fr_R P10.1 (NS _ _ (by omega))).trans C5.1.2.2.2.1) vu_o8 ((vx_fr_J P10.1 (NS _ _ (by omega))).trans C5.1.2.2.2.2.2.1) C5.1.2.2.2.2.2.2.1 (fun v hv => (vx_fr_J P10.1 (NS _ _ (by omega))).trans (C5.1.2.2.2.2.2.2.2 v hv).2) ⟨(vx_fr_J P10.1 (NS _ _ (by omega))).trans C5.2.2.2.2.2.1, (vx_fr_J P10.1 (NS _ _ (by omega))).trans C5.2.2.2.2.2.2⟩) ?_
    rintro h11 ⟨f11, C11⟩ T11
    have hbd : ∀ i, vb r10 i = true ↔ vz_bd u.2.2.2.2.1 i := by rw [d3]; exact vz_st_bd Uw.2.2 d2 d1 d4
    have C11' : vy_cf h11 (vz_un (vz_s u.2.2.2.2.1) u.2.1 u.2.2.2.1 u.2.1.1) := by
      rw [vz_un_congr u.2.1.1 (fun i _ => ?_)]
      · exact C11
      · cases t : vb r10 i with
        | true => exact vz_s_iff.mpr ((hbd i).mp t)
        | false =>
          cases t2 : vz_s u.2.2.2.2.1 i with
          | false => rfl
          | true => have := (hbd i).mpr (vz_s_iff.mp t2); rw [t] at this; cases this
    rw [e0]
    refine ⟨vx_fr_trans F5 (vx_fr_trans (vx_fr_mono P10.1 (fun a k q => vu_SF_p q)) (vx_fr_mono f11 (fun a k q => by omega))), ?_⟩
    by_cases z : (vz_un (vz_s u.2.2.2.2.1) u.2.1 u.2.2.2.1 u.2.1.1).1 ≠ 0
    · rw [if_pos z]; exact ⟨z, C11'⟩
    · rw [if_neg z]
      refine ⟨C11', fun k => vx_K h11 (vx_r 8 1) k, ?_⟩
      have g1 : vx_fr (fun a k => vz_Sp 8 a k ∨ (a = 7 ∧ (k = 11 ∨ k = 12))) h7 h11 := vx_fr_trans (vx_fr_mono P10.1 (fun a k q => Or.inl q)) (vx_fr_mono f11 (fun a k q => Or.inr q))
      have NG : ∀ a k, ¬ (a = 14 ∨ a = 15 ∨ a = 16 ∨ (a = 8 ∧ k = 15) ∨ a = 7) → ¬ (vz_Sp 8 a k ∨ (a = 7 ∧ (k = 11 ∨ k = 12))) := fun a k q t => t.elim (fun t => NS a k (by omega) t) (fun t => by omega)
      refine ⟨(vx_fr_J g1 (NG _ _ (by omega))).trans o0, fun k _ => rfl, vy_co_fr C5.2.1 g1 ⟨NG _ _ (by omega), NG _ _ (by omega), NG _ _ (by omega)⟩, (vx_fr_J g1 (NG _ _ (by omega))).trans C5.1.2.2.2.2.2.1, vy_cl_fr L5 g1 ⟨NG _ _ (by omega), fun k => ⟨NG _ _ (by omega), NG _ _ (by omega), NG _ _ (by omega), NG _ _ (by omega)⟩⟩, G, r10, hG, fun i => ?_, ⟨n', σ, b, d1, vz_st_fr d2 f11 (fun k => ⟨by omega, by omega, by omega⟩), d3, d4, fun t => absurd rfl t, fun t => ?_⟩, hbd⟩
      · rw [hg i]
        unfold vz_go vu_go
        rw [if_pos o0, if_pos rfl]
      · obtain ⟨s, s1, s2⟩ := d6 rfl
        exact ⟨s, (vx_fr_J f11 (by omega)).trans s1, s2⟩
end
