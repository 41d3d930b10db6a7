/-! fact: the reference, to its end -/
section
variable {d mi pc m : Nat} {lv : ve_V} {st : List Value} {args : List Value} {h : ve_H}
/-- a run ends in one way -/
theorem vx_both {Q Q' : ve_O → ve_H → Prop} (k : vx_W d mi pc lv st h Q) (k' : vx_W d mi pc lv st h Q') : vx_W d mi pc lv st h (fun o h1 => Q o h1 ∧ Q' o h1) := by
  obtain ⟨n, o, g, r, q⟩ := k
  obtain ⟨n', o', g', r', q'⟩ := k'
  have a := ve_mono r n'
  have b := ve_mono r' n
  rw [Nat.add_comm] at b
  rw [a] at b
  have e := Option.some.inj b
  injection e with e1 e2
  subst e1
  subst e2
  exact ⟨n, o, g, r, q, q'⟩
theorem vx_CI_and {P P' : Int → ve_H → Prop} (k : vx_CI d m args h P) (k' : vx_CI d m args h P') : vx_CI d m args h (fun x h1 => P x h1 ∧ P' x h1) := by
  refine vx_mono (vx_both k k') ?_
  rintro o h1 ⟨⟨x, e, r, p⟩, x', e', r', p'⟩
  rw [e] at e'
  have t : vx_i x = vx_i x' := by
    injection e' with e'
    injection e' with e'
    injection e'
  have t2 := (vx_i_inj r r').mp t
  subst t2
  exact ⟨x, e, r, p, p'⟩
end
section
variable {d i n m sd cnt : Nat} {h h1 g : ve_H} {V Pd : vy_V} {O : vy_O} {F : vy_F} {c : Nat → Int} {rr : Nat → Nat → Int} {x : Int}
theorem vd_63 (hT : vx_T 625 672 h) (X : vt_tr h n c) (hsd : sd < 2) (hx : x = 0 ∨ x = 1) (c11 : vx_J h 625 11 = sd) (Rp : vy_rp h sd Pd) (N : vu_rN h sd Pd cnt rr) : vx_CI (d + 4 + 1) 63 [.ref 625, .int (vx_i x)] h (fun r h1 => vx_fr (vu_SW sd) h h1 ∧ vx_J h1 625 2 = 0 ∧ vy_rp h1 sd Pd ∧ vu_fO x sd Pd cnt rr (vu_fc (vt_toks c n 600 0) Pd) h r h1) := by
  obtain ⟨ok, ok2, ok3⟩ := vt_toks_ok X.2.1 (fun j hj => (X.2.2 j hj).2)
  have hxr : vx_rI x := by rcases hx with rfl | rfl <;> decide
  have hx1 : x ≤ 1 := by rcases hx with rfl | rfl <;> decide
  have hx0 : 0 ≤ x := by rcases hx with rfl | rfl <;> decide
  refine vg_63 hT (fun g1 e1 T1 => ⟨hxr, fun q => by omega, fun _ => ⟨fun _ => ?_, fun q => by omega⟩⟩)
  have f1 : vx_fr (fun a k => a = 625 ∧ k = 0) h g1 := vx_fr_sJ vx_fr_refl e1 ⟨rfl, rfl⟩
  have F1 : vx_fr (vu_SW sd) h g1 := vx_fr_mono f1 (fun a k q => vu_SW_5 (by omega))
  have X1 : vt_tr g1 n c := ⟨(vx_fr_J f1 (by simp)).trans X.1, X.2.1, fun i hi => ⟨(vx_fr_J f1 (by simp)).trans (X.2.2 i hi).1, (X.2.2 i hi).2⟩⟩
  have t1 : vx_J g1 625 0 = 1 := by rw [e1, vx_J_eq (by decide)]
  refine vg_63_31 T1 (vu_rbeg (d := d) T1 X1 hsd ((vx_fr_J f1 (by simp)).trans c11) (vy_rp_fr Rp f1 (by simp)) (fun h4 T4 S4 f4 j2 B4 fi4 b641 b639 => ?_))
  obtain ⟨ts, ets⟩ : ∃ ts, ts = vt_toks c n 600 0 := ⟨_, rfl⟩
  rw [← ets] at ok ok2 ok3 B4 fi4 ⊢
  -- all that stays
  have KP : ∀ g, vx_fr (fun a k => vy_Sn 60 sd a k) h4 g → vx_fr (vu_SW sd) h g ∧ vx_J g 625 2 = 0 ∧ vx_J g 625 0 = 1 ∧ vx_J g 625 11 = sd ∧ vx_J g 625 31 = vx_J h 625 31 ∧ vx_J g 625 32 = vx_J h 625 32 ∧ vu_rN g sd Pd cnt rr := fun g f =>
    ⟨vx_fr_trans F1 (vx_fr_trans S4 (vx_fr_mono f (fun a k q => vu_SW_f (vu_Sf_n q)))), (vx_fr_J f (by simp [vy_Sn, vy_Sq])).trans j2, (vx_fr_J f (by simp [vy_Sn, vy_Sq])).trans ((vx_fr_J f4 (by simp)).trans t1), (vx_fr_J f (by simp [vy_Sn, vy_Sq])).trans ((vx_fr_J f4 (by simp)).trans ((vx_fr_J f1 (by simp)).trans c11)), (vx_fr_J f (by simp [vy_Sn, vy_Sq])).trans ((vx_fr_J f4 (by simp)).trans (vx_fr_J f1 (by simp))), (vx_fr_J f (by simp [vy_Sn, vy_Sq])).trans ((vx_fr_J f4 (by simp)).trans (vx_fr_J f1 (by simp))), vu_rN_fr (vu_rN_fr (vu_rN_fr N f1 (fun k => by simp)) f4 (fun k => by simp)) f (fun k => by simp [vy_Sn, vy_Sq])⟩
  -- where a fault stands
  have BAD : ∀ (g : ve_H) (Ff : vy_F) (v2 : Int), vx_T 625 672 g → vx_fr (fun a k => vy_Sn 60 sd a k) h4 g → vy_rp g sd Pd → vy_rf g Ff → Ff.1 ≠ 0 → vu_fc ts Pd = .inl Ff → vx_W (d + 4 + 1) 63 128 [some (.ref 625), some (.int (vx_i x)), some (.int (vx_i v2)), none, none, none] [] g (vx_RI (fun r h1 => vx_fr (vu_SW sd) h h1 ∧ vx_J h1 625 2 = 0 ∧ vy_rp h1 sd Pd ∧ vu_fO x sd Pd cnt rr (vu_fc ts Pd) h r h1)) := by
    intro g Ff v2 Tg f rp hf F0 e
    obtain ⟨a1, a2, a3, a4, a5, a6, a7⟩ := KP g f
    refine vg_63_128 Tg ⟨fun t => absurd (hf.1.symm.trans t) F0, fun _ => ?_⟩
    rw [e]
    exact ⟨a1, a2, rp, ⟨rfl, a3, F0, hf⟩, a7, a5, a6⟩
  have Sb : ∀ {a k : Nat}, vy_Sb a k → vy_Sn 60 sd a k := fun q => Or.inl (vy_Sq_b q)
  refine vx_CI_mono (vx_CI_and (vc_42 (d := d) (hd := true) (any := false) T4 ok B4 ⟨by decide, fun _ => rfl, fun _ => by decide⟩ ⟨by decide, fun t => absurd rfl t, fun t => absurd t (by decide)⟩ (fun _ => rfl) (fun _ => fi4)) (vd_42 (ho := rfl) (d := d) (hd := true) (any := false) T4 ok B4 ⟨by decide, fun _ => rfl, fun _ => by decide⟩ ⟨by decide, fun t => absurd rfl t, fun t => absurd t (by decide)⟩ (fun _ => rfl) (fun _ => fi4))) ?_
  rintro r5 h5 _ ⟨⟨f5, p5⟩, g5, -⟩ T5
  have rp5 : vy_rp h5 sd Pd := by
    have n1 : ¬ vy_Sn 60 2 631 sd := by simp [vy_Sn, vy_Sq]; omega
    have n2 : ∀ k, k < 32 → ¬ vy_Sn 60 2 632 k ∧ ¬ vy_Sn 60 2 633 k := fun k hk => by constructor <;> (simp [vy_Sn, vy_Sq]; omega)
    exact vy_rp_fr B4.2.2.2.2.1 g5 ⟨n1, fun k _ _ => n2 k (by omega)⟩
  cases e : vy_am ts false true false 0 vu_V0 vu_O0 Pd (0, 0) with
  | inl p =>
    rw [e] at p5
    obtain ⟨rfl, b⟩ := p5
    refine ⟨fun _ => vg_63_99 T5 ⟨by decide, fun _ => BAD h5 (1, p) 0 T5 f5 rp5 b (show (1 : Int) ≠ 0 by decide) (by unfold vu_fc; rw [e]), fun t => absurd rfl t⟩, fun t => absurd rfl t⟩
  | inr q =>
    rw [e] at p5
    obtain ⟨rfl, C5, A5, c50, c57, fi5⟩ := p5
    have fi5 := fi5 rfl
    have n1 : vx_J h5 625 3 ≠ 1 := by rw [C5.2.2.2.2.2.1.1]; exact C5.2.2.2.2.2.2
    have Qd := vy_am_pd e
    have Qw := vy_am_w e
    have Qv := vy_am_v ok ok2 (show vu_V0.1 ≤ 8 by decide) e
    have e0 : vu_fc ts Pd = if vy_k ts q.1 ≠ 46 then .inl (1, vy_p ts q.1)
      else if vy_ff q.2.1 q.2.2.1 ≠ -1 then .inl (1, vy_ff q.2.1 q.2.2.1)
      else if vy_k ts (q.1 + 1) ≠ 0 then .inl (1, vy_p ts (q.1 + 1))
      else if q.2.2.2.2.2.2.2.1 ≠ 0 then .inl q.2.2.2.2.2.2.2
      else .inr (q.2.2.2.2.2.2.2, q.2.2.2.2.2.1, q.2.2.2.1) := by unfold vu_fc; rw [e]
    have SB : ∀ {g g' : ve_H}, vx_fr (fun a k => vy_Sn 60 sd a k) h4 g → vx_fr vy_Sb g g' → vx_fr (fun a k => vy_Sn 60 sd a k) h4 g' := fun f f' => vx_fr_trans f (vx_fr_mono f' (fun a k q => Sb q))
    have rpb : ∀ {g g' : ve_H}, vy_rp g sd Pd → vx_fr vy_Sb g g' → vy_rp g' sd Pd := fun r f => vy_rp_fr r f (by simp [vy_Sb])
    refine ⟨fun t => absurd t (by decide), fun _ => vx_CI_mono (vc_36 (d := d + 2) (s := 46) T5 ok C5.1 n1 (by omega) rfl) ?_⟩
    rintro r7 h7 _ (⟨rfl, q46, e7, B7⟩ | ⟨rfl, q46, f7, b7⟩) T7
    rotate_left
    · rw [if_pos q46] at e0
      exact ⟨fun _ => vg_63_99 T7 ⟨by decide, fun _ => BAD h7 (1, vy_p ts q.1) 0 T7 (SB f5 f7) (rpb rp5 f7) b7 (show (1 : Int) ≠ 0 by decide) e0, fun t => absurd rfl t⟩, fun t => absurd rfl t⟩
    rw [if_neg (fun t => t q46)] at e0
    have f7 : vx_fr (fun a k => a = 625 ∧ k = 10) h5 h7 := vx_fr_sJ vx_fr_refl e7 ⟨rfl, rfl⟩
    have f7' : vx_fr (fun a k => vy_Sn 60 sd a k) h4 h7 := vx_fr_trans f5 (vx_fr_mono f7 (fun a k q => Or.inl (vy_Sq_10 q)))
    have rp7 : vy_rp h7 sd Pd := vy_rp_fr rp5 f7 (by simp)
    have j53 : vx_J h7 625 53 = vy_ff q.2.1 q.2.2.1 := (vx_fr_J f7 (by simp)).trans fi5.1
    have j3 : vx_J h7 625 3 ≠ 1 := by rw [vx_fr_J f7 (by simp)]; exact n1
    have hkr := vy_kr B7.1 B7.2.2.1
    refine ⟨fun t => absurd t (by decide), fun _ => ⟨fun q53 => ?_, fun q53 => ?_⟩⟩
    · have ff : vy_ff q.2.1 q.2.2.1 = -1 := j53.symm.trans q53
      rw [if_neg (fun t => t ff)] at e0
      refine vg_63_99 T7 ⟨by decide, fun t => absurd t (by decide), fun _ => ⟨fun t => absurd t j3, fun _ => ?_⟩⟩
      have hl := ok.2.1
      have hq1 := B7.2.2.1
      have j10 : vx_J h7 625 10 = ((q.1 + 1 : Nat) : Int) := B7.2.1
      rw [j10, Int.toNat_natCast]
      have k0 := vy_k0 hkr.2
      refine ⟨by omega, fun z0 => ?_, fun z0 => ?_⟩
      · have z1 : vy_k ts (q.1 + 1) = 0 := k0.mp z0
        rw [if_neg (fun t => t z1)] at e0
        have rf7 : vy_rf h7 q.2.2.2.2.2.2.2 := ⟨(vx_fr_J f7 (by simp)).trans C5.2.2.2.2.2.1.1, (vx_fr_J f7 (by simp)).trans C5.2.2.2.2.2.1.2⟩
        by_cases F0 : q.2.2.2.2.2.2.2.1 = 0
        · rw [if_neg (fun t => t F0)] at e0
          obtain ⟨a1, a2, a3, a4, a5, a6, a7⟩ := KP h7 f7'
          obtain ⟨p, p1, p2, p3⟩ := Qw.2.2.2.2 F0
          rw [Qd] at p1 p3
          have V0 : q.2.1.1 = 0 := (vy_ff_none fi5.2.1 (fun v hv => (fi5.2.2 v hv).1)).mp ff
          rw [e0]
          refine vc_63_128 (d := d + 4) (p := p) (m := q.2.2.2.2.1) T7 hsd hx a1 a4 ((vx_fr_J f7 (by simp)).trans C5.2.2.1) rp7 a7 a5 a6 a2 rf7 F0 ((vx_fr_J f7 (by simp)).trans c50) ?_ p2 p1 p3 Qw.1.2 (fun k hk => ?_) Qw.2.1
          · rw [vx_fr_J f7 (by simp), c57, if_neg (by omega)]; exact p2
          · rw [vx_fr_K f7 (by simp)]
            exact (vy_tr_val (A5 k hk) (fun i hi => by have := (Qv.2.2 k).1 i hi; omega) ((Qv.2.2 k).2 rfl)).1
        · rw [if_pos F0] at e0
          exact BAD h7 _ 1 T7 f7' rp7 rf7 F0 e0
      · have z1 : vy_k ts (q.1 + 1) ≠ 0 := fun t => z0 (k0.mpr t)
        rw [if_pos z1] at e0
        refine vx_CI_mono (vc_33 (d := d + 3) T7 ok B7 j3) ?_
        rintro r6 h6 _ ⟨_, f6, b6⟩ T6
        exact BAD h6 (1, vy_p ts (q.1 + 1)) 1 T6 (SB f7' f6) (rpb rp7 f6) b6 (show (1 : Int) ≠ 0 by decide) e0
    · have ff : vy_ff q.2.1 q.2.2.1 ≠ -1 := fun t => q53 (j53.trans t)
      rw [if_pos ff] at e0
      refine vx_CI_mono (vc_32 T7 (vx_rI_J _ _ _) j3) ?_
      rintro r10 h10 _ ⟨_, f10, b10⟩ T10
      rw [j53] at b10
      exact vg_63_99 T10 ⟨by decide, fun t => absurd t (by decide), fun _ => ⟨fun _ => BAD h10 (1, vy_ff q.2.1 q.2.2.1) 1 T10 (SB f7' f10) (rpb rp7 f10) b10 (show (1 : Int) ≠ 0 by decide) e0, fun t => absurd b10.1 t⟩⟩
end
