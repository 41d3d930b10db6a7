/-! ask: the reference, all together -/
abbrev vn_Wa (a k : Nat) : Prop := (a = 625 ∧ k ≠ 11 ∧ k ≠ 31 ∧ k ≠ 32 ∧ k ≠ 36) ∨ (627 ≤ a ∧ a ≤ 630) ∨ (655 ≤ a ∧ a ≤ 659) ∨ ((a = 636 ∨ a = 639 ∨ a = 640 ∨ a = 641 ∨ a = 642 ∨ a = 662) ∧ k = 60) ∨ ((a = 637 ∨ a = 638) ∧ 240 ≤ k) ∨ ((a = 643 ∨ a = 644 ∨ a = 660 ∨ a = 661) ∧ 360 ≤ k) ∨ ((a = 645 ∨ a = 646) ∧ 1440 ≤ k) ∨ a = 653 ∨ a = 654 ∨ (664 ≤ a ∧ a ≤ 668) ∨ (a = 631 ∧ k = 2) ∨ ((a = 632 ∨ a = 633) ∧ 32 ≤ k)
/-- what stays when answers stay -/
def vn_ks (h h1 : ve_H) : Prop := vx_J h1 625 37 = vx_J h 625 37 ∧ vx_J h1 625 38 = vx_J h 625 38 ∧ vx_J h1 625 39 = vx_J h 625 39 ∧ ∀ k, vx_K h1 653 k = vx_K h 653 k
/-- how ask ends -/
def vn_qO (Q : vy_F ⊕ (vy_F × Nat × vy_L)) (cnt : Nat) (rr : Nat → Nat → Int) (h : ve_H) (r : Int) (h1 : ve_H) : Prop := match Q with
  | .inl F => vx_J h1 625 0 = 1 ∧ F.1 ≠ 0 ∧ vy_rf h1 F ∧ vn_ks h h1
  | .inr f => vy_rf h1 f.1 ∧ ((vx_J h1 625 0 = 2 ∧ vn_ks h h1 ∧ (vx_J h 625 31 ≠ 1 ∨ vx_J h 625 37 = 500 ∨ vm_aB (vn_D cnt rr) (vn_R f.2.1 f.2.2))) ∨ (vx_J h1 625 0 = 0 ∧ vx_J h 625 31 = 1 ∧ vx_J h 625 37 ≠ 500 ∧ vx_J h1 625 37 = vx_J h 625 37 + 1 ∧ vx_J h1 625 39 = f.2.1 ∧ ∃ ac ar, r = (ac : Nat) ∧ vx_J h1 625 38 = (ac : Nat) ∧ ac ≤ 200 ∧ vm_aS (vn_D cnt rr) (vn_R f.2.1 f.2.2) ac ar ∧ vn_dj ac ar ∧ ∀ i, i < ac → ∀ v, v < f.2.1 → vy_vr (ar i v) (vx_K h1 653 (8 * vn_ah f.2.1 ac ar i + v))))
section
variable {d n sd cnt : Nat} {h : ve_H} {Pd : vy_V} {c : Nat → Int} {rr : Nat → Nat → Int} {cm : Nat → Int}
theorem vn_Wa_z {a k : Nat} (q : vy_Sz 60 2 a k) : vn_Wa a k := by
  rcases q with (q | q | q | q) | q | q | q | q
  · rcases q with q | q | q | q | q | q <;> omega
  · omega
  · omega
  · omega
  · omega
  · omega
  · omega
  · omega
def vn_Wn (a k : Nat) : Prop := vn_Wa a k ∧ ¬ (a = 625 ∧ (k = 37 ∨ k = 38 ∨ k = 39)) ∧ a ≠ 653
theorem vn_Wn_z {a k : Nat} (q : vy_Sz 60 2 a k) : vn_Wn a k := by
  refine ⟨vn_Wa_z q, ?_⟩
  rcases q with (q | q | q | q) | q | q | q | q
  · rcases q with q | q | q | q | q | q <;> omega
  · omega
  · omega
  · omega
  · omega
  · omega
  · omega
  · omega
theorem vn_Wn_5 {a k : Nat} (q : a = 625 ∧ (k = 0 ∨ k = 3 ∨ k = 4 ∨ k = 10)) : vn_Wn a k := ⟨Or.inl (by omega), by omega, by omega⟩
theorem vn_Wn_b {a k : Nat} (q : vy_Sb a k) : vn_Wn a k := vn_Wn_5 (by omega)
theorem vn_Wn_0 {a k : Nat} (q : a = 625 ∧ k = 0) : vn_Wn a k := vn_Wn_5 (by omega)
theorem vn_Wn_10 {a k : Nat} (q : a = 625 ∧ k = 10) : vn_Wn a k := vn_Wn_5 (by omega)
theorem vn_Wn_45 {a k : Nat} (q : a = 657 ∨ vy_Sb a k) : vn_Wn a k := by
  rcases q with q | q
  · exact ⟨Or.inr (Or.inr (Or.inl (by omega))), by omega, by omega⟩
  · exact vn_Wn_b q
theorem vn_Wn_4 {a k : Nat} (q : (a = 625 ∧ (k = 2 ∨ k = 3 ∨ k = 4 ∨ k = 5 ∨ k = 10 ∨ k = 42 ∨ k = 48 ∨ k = 49 ∨ k = 53 ∨ k = 54)) ∨ (627 ≤ a ∧ a ≤ 630) ∨ ((a = 639 ∨ a = 641 ∨ a = 642) ∧ k = 60)) : vn_Wn a k := by
  rcases q with q | q | q
  · exact ⟨Or.inl (by omega), by omega, by omega⟩
  · exact ⟨Or.inr (Or.inl q), by omega, by omega⟩
  · exact ⟨Or.inr (Or.inr (Or.inr (Or.inl (by omega)))), by omega, by omega⟩
theorem vn_Wn_q {a k : Nat} (q : vn_Wb a k) : vn_Wn a k := by
  rcases q with q | q | q
  · exact ⟨Or.inl (by omega), by omega, by omega⟩
  · exact ⟨by omega, by omega, by omega⟩
  · exact ⟨by omega, by omega, by omega⟩
theorem vn_Wa_q {a k : Nat} (q : vn_Wb a k ∨ (a = 625 ∧ (k = 37 ∨ k = 38 ∨ k = 39)) ∨ a = 653) : vn_Wa a k := by
  rcases q with q | q | q
  · exact (vn_Wn_q q).1
  · exact Or.inl (by omega)
  · omega
theorem vn_Wn_n : ¬ vn_Wn 625 31 ∧ ¬ vn_Wn 625 37 := ⟨fun q => by
  have := q.1
  omega, fun q => by
  have := q.2
  omega⟩
theorem vn_Wn_T {a k : Nat} (q : vn_Wn a k) : a ≠ 650 ∧ a ≠ 651 ∧ a ≠ 652 ∧ (a = 625 → k ≠ 32) := by
  have := q.1
  omega
theorem vn_ks_fr {h1 : ve_H} {S : Nat → Nat → Prop} (f : vx_fr S h h1) (hs : ∀ a k, S a k → ¬ (a = 625 ∧ (k = 37 ∨ k = 38 ∨ k = 39)) ∧ a ≠ 653) : vn_ks h h1 := ⟨vx_fr_J f (fun q => (hs _ _ q).1 ⟨rfl, by omega⟩), vx_fr_J f (fun q => (hs _ _ q).1 ⟨rfl, by omega⟩), vx_fr_J f (fun q => (hs _ _ q).1 ⟨rfl, by omega⟩), fun k => vx_fr_K f (fun q => (hs _ _ q).2 rfl)⟩
theorem vc_94 (hT : vx_T 625 672 h) (X : vt_tr h n c) (hsd : sd < 2) (c11 : vx_J h 625 11 = sd) (Rp : vy_rp h sd Pd) (T : vx_J h 625 31 = 1 → vn_T h Pd cnt rr cm ∧ cnt ≤ 200) (m500 : 0 ≤ vx_J h 625 37 ∧ vx_J h 625 37 ≤ 500) : vx_CI (d + 10) 94 [.ref 625] h (fun r h1 => vx_fr vn_Wa h h1 ∧ vx_J h1 625 2 = 0 ∧ vn_qO (vu_qc (vt_toks c n 600 0) Pd) cnt rr h r h1) := by
  obtain ⟨ok, ok2, ok3⟩ := vt_toks_ok X.2.1 (fun j hj => (X.2.2 j hj).2)
  refine vg_94 (d := d + 9) hT (vu_rbeg (d := d + 5) hT X hsd c11 Rp (fun h4 T4 S4 f4 j2 B4 fi4 b641 b639 => ?_))
  obtain ⟨ts, ets⟩ : ∃ ts, ts = vt_toks c n 600 0 := ⟨_, rfl⟩
  rw [← ets] at ok ok2 ok3 B4 fi4 ⊢
  have F4 : vx_fr vn_Wn h h4 := vx_fr_mono f4 (fun a k q => vn_Wn_4 q)
  -- a fault
  have BAD : ∀ (g : ve_H) (Ff : vy_F), vx_T 625 672 g → vx_fr vn_Wn h g → vx_J g 625 2 = 0 → vy_rf g Ff → Ff.1 ≠ 0 → vu_qc ts Pd = .inl Ff → vd_tl (d + 9) (fun r h1 => vx_fr vn_Wa h h1 ∧ vx_J h1 625 2 = 0 ∧ vn_qO (vu_qc ts Pd) cnt rr h r h1) g := by
    intro g Ff Tg Fg g2 rf F0 e
    refine vd_tl_bad Tg (by rw [rf.1]; exact F0) (fun h1 F1 j1 => ?_)
    have FF : vx_fr vn_Wn h h1 := vx_fr_trans Fg (vx_fr_mono F1 (fun a k q => vn_Wn_0 q))
    rw [e]
    exact ⟨vx_fr_mono FF (fun a k q => q.1), (vx_fr_J F1 (by omega)).trans g2, j1, F0, ⟨(vx_fr_J F1 (by omega)).trans rf.1, (vx_fr_J F1 (by omega)).trans rf.2⟩, vn_ks_fr FF (fun a k q => q.2)⟩
  have L4 : vy_rl h4 60 Pd (0, 0) vu_L0 := ⟨b641, by decide, fun i hi => absurd (show i < 0 from hi) (by omega)⟩
  refine vx_CI_mono (vd_46 (ho := rfl) (d := d + 3) (x := 0) ok T4 B4 L4 rfl (by rw [b639]; rfl)) ?_
  rintro r5 h5 _ ⟨f5, p5⟩ T5
  have F5 : vx_fr vn_Wn h h5 := vx_fr_trans F4 (vx_fr_mono f5 (fun a k q => vn_Wn_z q))
  have n52 : ¬ vy_Sz 60 2 625 2 := by simp [vy_Sz, vy_Sn, vy_Sq]
  have j52 : vx_J h5 625 2 = 0 := (vx_fr_J f5 n52).trans j2
  have SB : ∀ {g g' : ve_H}, vx_fr vn_Wn h g → vx_fr vy_Sb g g' → vx_fr vn_Wn h g' := fun f f' => vx_fr_trans f (vx_fr_mono f' (fun a k q => vn_Wn_b q))
  cases e : vy_bo ts false vu_O0 6 0 vu_V0 Pd (0, 0) vu_L0 0 with
  | inl p =>
    rw [e] at p5
    obtain ⟨rfl, b⟩ := p5
    exact ⟨fun _ => BAD h5 (1, p) T5 F5 j52 b (show (1 : Int) ≠ 0 by decide) (by unfold vu_qc; rw [e]), fun t => absurd rfl t⟩
  | inr u =>
    rw [e] at p5
    obtain ⟨rfl, C5, L5, -, -⟩ := p5
    have e0 : vu_qc ts Pd = if vy_k ts u.1 ≠ 63 then .inl (1, vy_p ts u.1)
      else if vy_k ts (u.1 + 1) ≠ 0 then .inl (1, vy_p ts (u.1 + 1))
      else if (vz_un (vz_s u.2.2.2.2.1) u.2.1 u.2.2.2.1 u.2.1.1).1 ≠ 0 then .inl (vz_un (vz_s u.2.2.2.2.1) u.2.1 u.2.2.2.1 u.2.1.1)
      else .inr (vz_un (vz_s u.2.2.2.2.1) u.2.1 u.2.2.2.1 u.2.1.1, u.2.1.1, u.2.2.2.2.1) := by unfold vu_qc; rw [e]
    have Z0 : vz_wf vu_O0.1 vu_V0.1 vu_L0 := fun j hj => absurd (show j < 0 from hj) (by omega)
    have Uw := vy_bo_w ok ok2 6 0 _ _ _ _ _ (show vu_V0.1 ≤ 8 by decide) Z0 e
    have Ud := vy_bo_pd 6 0 _ _ _ _ _ e
    have n1 : vx_J h5 625 3 ≠ 1 := by rw [C5.2.2.2.2.2.1.1]; exact C5.2.2.2.2.2.2
    refine ⟨fun t => absurd t (by decide), fun _ => vx_CI_mono (vc_36 (d := d + 7) (s := 63) T5 ok C5.1 n1 (by omega) rfl) ?_⟩
    rintro r24 h24 _ (⟨rfl, q63, e24, B24⟩ | ⟨rfl, q63, f24, b24⟩) T24
    rotate_left
    · rw [if_pos q63] at e0
      exact ⟨fun _ => BAD h24 (1, vy_p ts u.1) T24 (SB F5 f24) ((vx_fr_J f24 (by omega)).trans j52) b24 (show (1 : Int) ≠ 0 by decide) e0, fun t => absurd rfl t⟩
    rw [if_neg (fun t => t q63)] at e0
    have f24 : vx_fr (fun a k => a = 625 ∧ k = 10) h5 h24 := vx_fr_sJ vx_fr_refl e24 ⟨rfl, rfl⟩
    have F24 : vx_fr vn_Wn h h24 := vx_fr_trans F5 (vx_fr_mono f24 (fun a k q => vn_Wn_10 q))
    have j24 : vx_J h24 625 2 = 0 := (vx_fr_J f24 (by omega)).trans j52
    have rf24 : vy_rf h24 u.2.2.2.1 := ⟨(vx_fr_J f24 (by omega)).trans C5.2.2.2.2.2.1.1, (vx_fr_J f24 (by omega)).trans C5.2.2.2.2.2.1.2⟩
    have n24 : vx_J h24 625 3 ≠ 1 := by rw [vx_fr_J f24 (by omega)]; exact n1
    have hkr := vy_kr B24.1 B24.2.2.1
    have k0 := vy_k0 hkr.2
    have j10 : vx_J h24 625 10 = ((u.1 + 1 : Nat) : Int) := B24.2.1
    have hq1 := B24.2.2.1
    have hl := ok.2.1
    refine ⟨fun t => absurd t (by decide), fun _ => ?_⟩
    rw [j10, Int.toNat_natCast]
    refine ⟨by omega, fun z0 => ?_, fun z0 => ?_⟩
    · have z1 : vy_k ts (u.1 + 1) = 0 := k0.mp z0
      rw [if_neg (fun t => t z1)] at e0
      have L24 : vy_rl h24 60 u.2.2.1 u.2.2.2.1 u.2.2.2.2.1 := vy_rl_fr L5 f24 ⟨by omega, fun l _ _ => ⟨by omega, by omega, by omega, by omega⟩, fun k _ _ => ⟨by omega, by omega⟩⟩
      refine vx_CV_mono (vc_49 (d := d + 8) T24 B24 L24 Uw.2.2 rf24 C5.2.2.2.2.2.2) ?_
      rintro h45 ⟨f45, rf45⟩ T45
      have F45 : vx_fr vn_Wn h h45 := vx_fr_trans F24 (vx_fr_mono f45 (fun a k q => vn_Wn_45 q))
      have j45 : vx_J h45 625 2 = 0 := (vx_fr_J f45 (by omega)).trans j24
      by_cases U0 : (vz_un (vz_s u.2.2.2.2.1) u.2.1 u.2.2.2.1 u.2.1.1).1 = 0
      · rw [if_neg (fun t => t U0)] at e0
        have Qw := vu_qc_w ok ok2 ok3 e0
        have Q3 := vu_qc_3 e0
        have Fu : u.2.2.2.1.1 = 0 := (vz_un_0 _ U0).1
        have L45 : vy_rl h45 60 u.2.2.1 u.2.2.2.1 u.2.2.2.2.1 := vy_rl_fr L24 f45 ⟨by omega, fun l _ _ => ⟨by omega, by omega, by omega, by omega⟩, fun k _ _ => ⟨by omega, by omega⟩⟩
        have L45' : vy_rl h45 60 Pd (0, 0) u.2.2.2.2.1 := by
          rw [Ud] at L45
          exact ⟨L45.1, L45.2.1, fun i hi => vy_rq_mono (L45.2.2 i hi) (fun _ => Fu) (fun p hp => ⟨hp, rfl⟩)⟩
        have j31 : vx_J h45 625 31 = vx_J h 625 31 := vx_fr_J F45 vn_Wn_n.1
        have j37 : vx_J h45 625 37 = vx_J h 625 37 := vx_fr_J F45 vn_Wn_n.2
        refine vd_tl_ok (d := d) (cnt := cnt) (rr := rr) (cm := cm) T45 Qw.2 Q3 L45' ((vx_fr_J f45 (by omega)).trans B24.2.2.2.2.2.1) rf45 U0 (fun q => ?_) (by rw [j37]; exact m500) (fun r h1 q => ?_)
        · obtain ⟨t1, t2⟩ := T (j31.symm.trans q)
          exact ⟨vn_T_fr t1 F45 (fun a k q => vn_Wn_T q), t2⟩
        · obtain ⟨q1, q2⟩ := q
          rw [e0]
          rcases q2 with ⟨g1, g2, g3⟩ | ⟨g1, g2, g3, g4, g5, g6, g7⟩
          · have FF : vx_fr vn_Wn h h1 := vx_fr_trans F45 (vx_fr_mono g1 (fun a k q => vn_Wn_q q))
            refine ⟨vx_fr_mono FF (fun a k q => q.1), (vx_fr_J g1 (by omega)).trans j45, q1, Or.inl ⟨g2, vn_ks_fr FF (fun a k q => q.2), ?_⟩⟩
            rw [j31, j37] at g3; exact g3
          · refine ⟨vx_fr_trans (vx_fr_mono F45 (fun a k q => q.1)) (vx_fr_mono g1 (fun a k q => vn_Wa_q q)), (vx_fr_J g1 (by omega)).trans j45, q1, Or.inr ⟨g2, ?_, ?_, ?_, g6, g7⟩⟩
            · rw [j31] at g3; exact g3
            · rw [j37] at g4; exact g4
            · rw [j37] at g5; exact g5
      · rw [if_pos U0] at e0
        exact BAD h45 _ T45 F45 j45 rf45 U0 e0
    · have z1 : vy_k ts (u.1 + 1) ≠ 0 := fun t => z0 (k0.mpr t)
      rw [if_pos z1] at e0
      refine vx_CI_mono (vc_33 (d := d + 8) T24 ok B24 n24) ?_
      rintro r63 h63 _ ⟨_, f63, b63⟩ T63
      exact BAD h63 (1, vy_p ts (u.1 + 1)) T63 (SB F24 f63) ((vx_fr_J f63 (by omega)).trans j24) b63 (show (1 : Int) ≠ 0 by decide) e0
end
