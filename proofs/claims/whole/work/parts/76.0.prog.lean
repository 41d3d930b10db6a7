/-! Programs: what comes of one -/
noncomputable def vu_prog (ts : vy_T) : vy_F ⊕ vu_S := match vu_pl ts 600 0 vu_S0 with
  | .inl p => .inl (1, p)
  | .inr S => if S.2.1.1 ≠ 0 then .inl S.2.1 else match vs_hp (vs_w (vs_e S.2.2.1 S.2.2.2.1) 16) S.2.2.1 S.2.2.2.1 with
    | some p => .inl (4, p)
    | none => .inr S
def vu_wS (S : vu_S) : Prop := (∀ r, r < S.2.2.1 → vu_wR S.1 (S.2.2.2.1 r)) ∧ ∀ j, j < S.2.2.2.2.1 → vu_wA S.1 (S.2.2.2.2.2 j)
section
variable {i n m : Nat} {ts : vy_T} {Pd Pd' : vy_V} {R : vu_R} {S S' : vu_S}
theorem vu_wR_mono (h : vu_wR Pd R) (M : ∀ p, p < Pd.1 → p < Pd'.1 ∧ Pd'.2.2 p = Pd.2.2 p) : vu_wR Pd' R := by
  obtain ⟨a1, a2, a3, a4, a5, a6, ⟨p, m, b1, b2, b3, b4⟩, a8, a9⟩ := h
  exact ⟨a1, a2, a3, a4, a5, a6, ⟨p, m, b1, (M p b2).1, (M p b2).2.trans b3, b4⟩, vu_wL_mono a8 M, a9⟩
theorem vu_wA_mono {r : Nat → Int} (h : vu_wA Pd r) (M : ∀ p, p < Pd.1 → p < Pd'.1 ∧ Pd'.2.2 p = Pd.2.2 p) : vu_wA Pd' r := by
  obtain ⟨p, m, b1, b2, b3, b4⟩ := h
  exact ⟨p, m, b1, (M p b2).1, (M p b2).2.trans b3, b4⟩
theorem vs_hr_0 {w : Nat → Nat → Bool} {x : Int} (W : vu_wR Pd R) (e : vs_hr w R = some x) : 0 ≤ x := by
  obtain ⟨-, -, -, -, -, -, -, -, pp, wO⟩ := W
  unfold vs_hr at e
  cases e1 : vu_f (vs_ht w R) R.2.2.2.2.1 with
  | some y =>
    rw [e1] at e
    have e : y = x := Option.some.inj e
    obtain ⟨i, hi, e2⟩ := vu_f_some e1
    by_cases t : R.2.2.1.1 ≠ -1 ∧ vs_ak R.2.2.2.2 i ∧ vs_bk w R i
    · rw [vs_ht_t t] at e2
      have e2 : R.2.2.1.2.2 = y := Option.some.inj e2
      have := (wO.2.2 t.1).1
      omega
    · rw [vs_ht_f t] at e2; cases e2
  | none =>
    rw [e1] at e
    have e : vu_f (vs_hl w R) R.2.2.2.2.1 = some x := e
    obtain ⟨i, hi, e2⟩ := vu_f_some e
    by_cases t : R.2.2.2.2.2.1 i = 15 ∧ vs_bk w R i
    · rw [vs_hl_t t] at e2
      have e2 : R.2.2.2.2.2.2.2.1 i = x := Option.some.inj e2
      have := (wO.2.1 i hi).1
      omega
    · rw [vs_hl_f t] at e2; cases e2
theorem vu_nx_w {q : Nat × vy_V × vy_F × ((Int × (Nat → Int)) ⊕ vu_R)} (M : vu_mo S.1 S.2.1 q.2.1 q.2.2.1) (w : S.2.1.1 = 0 → vu_wS S) (k : q.2.2.1.1 = 0 → vu_wK q.2.1 q.2.2.2) : (vu_nx S q).2.1.1 = 0 → vu_wS (vu_nx S q) := by
  obtain ⟨j, Pd, F, K⟩ := q
  cases K with
  | inl f =>
    intro z
    have z : F.1 = 0 := z
    obtain ⟨w1, w2⟩ := w (M.1 z)
    refine ⟨fun r hr => vu_wR_mono (w1 r hr) M.2, fun a ha => ?_⟩
    have ha : a < (vu_fa S.2.2.2.2.1 S.2.2.2.2.2 (vu_row f.1 f.2)).1 := ha
    show vu_wA Pd ((vu_fa S.2.2.2.2.1 S.2.2.2.2.2 (vu_row f.1 f.2)).2 a)
    by_cases t : ∃ i, i < S.2.2.2.2.1 ∧ vr_eq 5 (S.2.2.2.2.2 i) (vu_row f.1 f.2)
    · rw [vu_fa_t t] at ha ⊢
      exact vu_wA_mono (w2 a ha) M.2
    · rw [vu_fa_f (fun i hi u => t ⟨i, hi, u⟩)] at ha ⊢
      show vu_wA Pd (if a = S.2.2.2.2.1 then vu_row f.1 f.2 else S.2.2.2.2.2 a)
      have ha : a < S.2.2.2.2.1 + 1 := ha
      by_cases u : a = S.2.2.2.2.1
      · rw [if_pos u]; exact k z
      · rw [if_neg u]; exact vu_wA_mono (w2 a (by omega)) M.2
  | inr R =>
    intro z
    have z : F.1 = 0 := z
    obtain ⟨w1, w2⟩ := w (M.1 z)
    refine ⟨fun r hr => ?_, fun a ha => vu_wA_mono (w2 a ha) M.2⟩
    have hr : r < S.2.2.1 + 1 := hr
    show vu_wR Pd (if r = S.2.2.1 then R else S.2.2.2.1 r)
    by_cases u : r = S.2.2.1
    · rw [if_pos u]; exact k z
    · rw [if_neg u]; exact vu_wR_mono (w1 r (by omega)) M.2
theorem vu_pl_w (ok : vy_ok ts) (ok2 : vy_ok2 ts) (ok3 : vy_ok3 ts) : ∀ (m i : Nat) (S : vu_S), (S.2.1.1 = 0 → vu_wS S) → vu_pl ts m i S = .inr S' → S'.2.1.1 = 0 → vu_wS S'
  | 0, i, S, w, e => by
    have e : (.inr S : Int ⊕ vu_S) = .inr S' := e
    cases e; exact w
  | m + 1, i, S, w, e => by
    rw [vu_pl_s] at e
    split at e
    · cases e; exact w
    split at e
    · cases e
    rename_i q hq
    have C := vu_cs_w (j := q.1) (Pd' := q.2.1) (F' := q.2.2.1) (K := q.2.2.2) ok ok2 ok3 hq
    exact vu_pl_w ok ok2 ok3 m q.1 (vu_nx S q) (vu_nx_w C.2.2.1 w C.2.2.2) e
theorem vu_S0_w : vu_wS vu_S0 := ⟨fun r hr => absurd (show r < 0 from hr) (by omega), fun r hr => absurd (show r < 0 from hr) (by omega)⟩
end
/-- the class behind a program's reading -/
def vu_cE (pi : Nat) (R : vy_F ⊕ vu_S) (h : ve_H) : Prop := match R with
  | .inl F => F.1 ≠ 0 ∧ vy_cf h F
  | .inr S => vy_cf h S.2.1 ∧ S.2.1.1 = 0 ∧ vu_wS S ∧ vu_cg h pi S.1 S.2.2.1 S.2.2.2.1 ∧ vr_P (pi + 6) 5 S.2.2.2.2.1 S.2.2.2.2.2 h ∧ ∃ s, vs_lst s S.2.2.1 S.2.2.2.1 ∧ (∀ p, p < 16 → s p ≤ 16) ∧ vs_cs h pi s ∧ vx_J h pi 8 = (vs_ns s S.1.1 : Nat)
abbrev vu_SQ (pi a k : Nat) : Prop := (a = 7 ∧ 6 ≤ k) ∨ (a = 2 ∧ k = 5) ∨ (4 ≤ a ∧ a ≤ 6) ∨ (17 ≤ a ∧ a ≤ 20) ∨ (pi ≤ a ∧ a < pi + 289 ∧ (a ≠ pi + 6 ∨ k ≠ 0))
section
variable {d i n m pi : Nat} {h h1 g : ve_H} {c : Nat → Int}
theorem vc_145 (hT : vx_T 1 625 h) (hp : vx_o 1 625 5 pi) (X : vt_tx h n c) (hw : vx_J h (pi + 6) 0 = (5 : Nat)) : vx_CV (d + 6 + 1) 145 [.ref 7, .ref pi] h (fun h1 => vx_fr (vu_SQ pi) h h1 ∧ vu_cE pi (vu_prog (vt_toks c n 600 0)) h1) := by
  have p39 := (vx_po hp).2.2.2.2.2.2
  obtain ⟨ok, ok2, ok3⟩ := vt_toks_ok X.2.1 (fun j hj => (X.2.2 j hj).2)
  obtain ⟨ts, ets⟩ : ∃ ts, ts = vt_toks c n 600 0 := ⟨_, rfl⟩
  rw [← ets] at ok ok2 ok3 ⊢
  refine vg_145 hp hT (vx_CV_mono (vc_148 (d := d + 1) hT X hp (Or.inr rfl)) ?_)
  rintro h1 ⟨f1, r6, j7, j9, j11, j12, k1⟩ T1
  rw [← ets] at k1
  have F1 : vx_fr (vu_SQ pi) h h1 := vx_fr_mono f1 (fun a k q => by
    rcases q with ⟨q, q2⟩ | q | ⟨q, -⟩
    · left; omega
    · right; left; exact q
    · right; right; left; omega)
  have hw1 : vx_J h1 (pi + 6) 0 = (5 : Nat) := (vx_fr_J f1 (by
    rintro (q | q | q)
    · omega
    · omega
    · omega)).trans hw
  refine vx_CV_mono (vc_135 (d := d + 4) (rr := fun _ _ => 0) T1 hp hw1) ?_
  rintro h2 ⟨f2, p6, p7, P2⟩ T2
  have N2 : ∀ a k, ((a = pi ∧ (k = 6 ∨ k = 7)) ∨ vr_W (pi + 6) a k) → (a = pi ∨ (a = pi + 6 ∧ k = 4) ∨ (pi + 7 ≤ a ∧ a ≤ pi + 9)) := by
    obtain ⟨-, b1, b2, b3⟩ := vu_fK hp
    intro a k q
    simp only [vr_W, b1, b2, b3] at q
    omega
  have M2 : ∀ a k, ¬ (a = pi ∨ (a = pi + 6 ∧ k = 4) ∨ (pi + 7 ≤ a ∧ a ≤ pi + 9)) → ¬ ((a = pi ∧ (k = 6 ∨ k = 7)) ∨ vr_W (pi + 6) a k) := fun a k q t => q (N2 a k t)
  have F2 : vx_fr (vu_SQ pi) h h2 := vx_fr_trans F1 (vx_fr_mono f2 (fun a k q => by
    have := N2 a k q
    omega))
  have C2 : vu_cT h2 ts pi 0 vu_S0 := by
    refine ⟨vy_kc_fr k1 f2 (fun k => ⟨M2 _ _ (by omega), M2 _ _ (by omega), M2 _ _ (by omega)⟩), (vx_fr_J f2 (M2 _ _ (by omega))).trans j9, ok.1, (vx_fr_R f2 (M2 _ _ (by omega))).trans r6, (vx_fr_J f2 (M2 _ _ (by omega))).trans j7, ⟨hp, p6, by decide, fun p hp => absurd (show p < 0 from hp) (by omega)⟩, ⟨(vx_fr_J f2 (M2 _ _ (by omega))).trans j11, (vx_fr_J f2 (M2 _ _ (by omega))).trans j12⟩, by decide, p7, by decide, fun r hr => absurd (show r < 0 from hr) (by omega), P2, Nat.zero_le _⟩
  have FF : ∀ g, vx_fr (vu_SP pi) h2 g → vx_fr (vu_SQ pi) h g := fun g f => vx_fr_trans F2 (vx_fr_mono f (fun a k q => by
    rcases q with q | q | q
    · left; omega
    · right; right; right; left; exact q
    · right; right; right; right; exact q))
  refine vc_145_14 (h := h2) (R0 := vu_pl ts 600 0 vu_S0) ok ok2 hp (fun p g e Tg f b => ⟨FF g f, by unfold vu_prog; rw [e]; exact ⟨show (1 : Int) ≠ 0 by decide, b⟩⟩) (fun S' i' g e Tg f C => ?_) 600 0 vu_S0 h2 0 (by omega) (by omega) T2 vx_fr_refl C2 rfl
  · have hn := C.2.2.2.2.2.2.2.2.2.1
    have hcf : vy_cf g S'.2.1 := C.2.2.2.2.2.2.1
    refine ⟨fun q => ?_, fun q => ⟨FF g f, ?_⟩⟩
    · have z : S'.2.1.1 = 0 := hcf.1.symm.trans q
      have WS := vu_pl_w ok ok2 ok3 600 0 vu_S0 (fun _ => vu_S0_w) e z
      have G : vu_cg g pi S'.1 S'.2.2.1 S'.2.2.2.1 := ⟨C.2.2.2.2.2.1, C.2.2.2.2.2.2.2.2.1, hn, C.2.2.2.2.2.2.2.2.2.2.1⟩
      have ep : vu_prog ts = match vs_hp (vs_w (vs_e S'.2.2.1 S'.2.2.2.1) 16) S'.2.2.1 S'.2.2.2.1 with
          | some p => .inl (4, p)
          | none => .inr S' := by
        unfold vu_prog
        rw [e]
        show (if S'.2.1.1 ≠ 0 then _ else _) = _
        rw [if_neg (fun t => t z)]
      refine vx_CV_mono (vc_139 (d := d + 5) Tg G WS.1) ?_
      rintro h4 ⟨f4, M4⟩ T4
      have G4 := vu_cg_4 G f4
      refine vx_CI_mono (vc_140 (d := d + 5) (w := vs_w (vs_e S'.2.2.1 S'.2.2.2.1) 16) T4 G4 WS.1 M4) ?_
      rintro r5 h5 hr5 ⟨rfl, p5⟩ T5
      have FF4 : vx_fr (vu_SQ pi) h h5 := vx_fr_trans (FF g f) (vx_fr_mono f4 (fun a k q => by omega))
      have cf4 : vy_cf h5 S'.2.1 := ⟨(vx_fr_J f4 (by omega)).trans hcf.1, (vx_fr_J f4 (by omega)).trans hcf.2⟩
      refine ⟨fun q5 => ?_, fun q5 => ?_⟩
      · have no : vs_hp (vs_w (vs_e S'.2.2.1 S'.2.2.2.1) 16) S'.2.2.1 S'.2.2.2.1 = none := by
          rcases p5 with ⟨t, -⟩ | t
          · exact t
          · exfalso
            obtain ⟨r, hr, e⟩ := vu_f_some t
            have e : vs_hr (vs_w (vs_e S'.2.2.1 S'.2.2.2.1) 16) (S'.2.2.2.1 r) = some r5 := e
            have := vs_hr_0 (WS.1 r hr) e
            omega
        rw [no] at ep
        refine vx_CV_mono (vc_142 (d := d + 4) T5 G4 WS.1 no) ?_
        rintro h7 ⟨f7, s, l7, b7, s7, n7⟩ T7
        rw [ep]
        have K := (vu_fK hp).1
        obtain ⟨-, kb1, kb2, kb3⟩ := vu_fK hp
        refine ⟨vx_fr_trans FF4 (vx_fr_mono f7 (fun a k q => by omega)), ⟨(vx_fr_J f7 (by omega)).trans cf4.1, (vx_fr_J f7 (by omega)).trans cf4.2⟩, z, WS, vu_cg_3 G4 f7, vr_P_fr (vr_P_fr C.2.2.2.2.2.2.2.2.2.2.2.1 K f4 (fun b k hb => by omega)) K f7 (fun b k hb => by omega), s, l7, b7, s7, n7⟩
      · refine vx_CV_mono (vc_167 (d := d + 6) T5 cf4 (by decide) hr5) ?_
        rintro h8 ⟨f8, c8⟩ T8
        have yes : vs_hp (vs_w (vs_e S'.2.2.1 S'.2.2.2.1) 16) S'.2.2.1 S'.2.2.2.1 = some r5 := by
          rcases p5 with ⟨-, t⟩ | t
          · exact absurd t q5
          · exact t
        rw [yes] at ep
        rw [ep]
        refine ⟨vx_fr_trans FF4 (vx_fr_mono f8 (fun a k q => by omega)), show (4 : Int) ≠ 0 by decide, ?_⟩
        unfold vy_nt at c8
        rw [if_pos (Or.inl z)] at c8
        exact c8
    · have z : S'.2.1.1 ≠ 0 := fun t => q (hcf.1.trans t)
      unfold vu_prog
      rw [e]
      show vu_cE pi (if S'.2.1.1 ≠ 0 then .inl S'.2.1 else _) g
      rw [if_pos z]
      exact ⟨z, hcf⟩
end
