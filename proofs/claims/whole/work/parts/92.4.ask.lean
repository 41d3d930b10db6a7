/-! ask: the pair -/
section
variable {D : vm_S} {n ac : Nat} {L : vy_L} {A : Nat → Int} {ar : Nat → Nat → Int} {u : Nat → Int}
theorem vm_gl_q : vm_gl (-1, A, vu_O0, n, L) u = vm_gl (vn_R n L) u := by
  unfold vm_gl vn_R
  rw [if_pos rfl, if_pos rfl]
theorem vm_aS_q (a : vm_aS D (-1, A, vu_O0, n, L) ac ar) : vm_aS D (vn_R n L) ac ar := by
  refine ⟨fun i hi => ?_, fun u hu => ?_⟩
  · obtain ⟨u, u1, u2, u3⟩ := a.1 i hi
    rw [vm_gl_q] at u3
    exact ⟨u, u1, u2, u3⟩
  · obtain ⟨i, i1, i2⟩ := a.2 u hu
    rw [vm_gl_q] at i2
    exact ⟨i, i1, i2⟩
theorem vm_aB_q (a : vm_aB D (-1, A, vu_O0, n, L)) : vm_aB D (vn_R n L) := by
  obtain ⟨f, f1, f2⟩ := a
  refine ⟨f, fun i hi => ?_, f2⟩
  obtain ⟨u, u1, u2, u3⟩ := f1 i hi
  rw [vm_gl_q] at u3
  exact ⟨u, u1, u2, u3⟩
theorem vm_aS_z (a : vm_aS D (vn_R n L) ac ar) : ∀ i, i < ac → ∀ v, n ≤ v → v < 8 → ar i v = 0 := fun i hi v h1 h2 => by
  obtain ⟨u, _, _, u3⟩ := a.1 i hi
  rw [u3 v h2]
  unfold vm_gl vn_R
  rw [if_pos rfl]
  show (if v < n then u v else 0) = 0
  rw [if_neg (by omega)]
end
theorem vi_Wp_in {ab a k : Nat} (q : vi_Wp ab a k) : (a = 1 ∧ (k = 5 ∨ k = 6 ∨ k = 7 ∨ k = 10 ∨ k = 11 ∨ k = 12)) ∨ (2 ≤ a ∧ a ≤ 20) ∨ (a = 21 ∧ 6 ≤ k) ∨ (31 ≤ a ∧ a ≤ 33) ∨ (a = ab ∧ k = 4) ∨ (ab < a ∧ a ≤ ab + 3) := by
  rcases q with (q | q) | q
  · have t := vi_Wr_in q
    clear q
    omega
  · omega
  · omega
theorem vn_Wa_ge {a k : Nat} (q : vn_Wa a k) : 625 ≤ a ∧ (a = 625 → k ≠ 11 ∧ k ≠ 31 ∧ k ≠ 32 ∧ k ≠ 36) ∧ a ≠ 626 ∧ a ≠ 634 ∧ a ≠ 635 ∧ (a < 650 ∨ 652 < a) ∧ a ≤ 668 := by
  unfold vn_Wa at q
  omega
theorem vn_Wa_r {sd : Nat} (sd2 : sd < 2) : vi_nR vn_Wa sd := by
  unfold vi_nR vn_Wa
  refine ⟨by omega, fun k h1 h2 => by omega, fun k h1 h2 => ⟨by omega, by omega, by omega, by omega, by omega, by omega⟩, fun k h1 h2 => ⟨by omega, by omega⟩, fun k h1 h2 => ⟨by omega, by omega, by omega, by omega⟩, fun k h1 h2 => ⟨by omega, by omega⟩⟩
theorem vn_Wa_f {sd : Nat} (sd2 : sd < 2) : vi_nF vn_Wa sd := by
  unfold vi_nF vn_Wa
  refine ⟨⟨by omega, by omega⟩, fun k h1 h2 => ⟨by omega, by omega⟩, fun k h1 h2 => by omega, fun k h1 h2 => by omega⟩
theorem vi_a0 {ab a k : Nat} (q : (vi_Wp ab a k ∨ a = 672) ∨ vn_Wa a k) : ((a = 1 ∧ (k = 5 ∨ k = 6 ∨ k = 7 ∨ k = 10 ∨ k = 11 ∨ k = 12)) ∨ (2 ≤ a ∧ a ≤ 20) ∨ (a = 21 ∧ 6 ≤ k) ∨ (31 ≤ a ∧ a ≤ 33) ∨ (a = ab ∧ k = 4) ∨ (ab < a ∧ a ≤ ab + 3)) ∨ a = 672 ∨ (625 ≤ a ∧ (a = 625 → k ≠ 11 ∧ k ≠ 31 ∧ k ≠ 32 ∧ k ≠ 36) ∧ a ≠ 626 ∧ a ≠ 634 ∧ a ≠ 635 ∧ (a < 650 ∨ 652 < a) ∧ a ≤ 668) := by
  rcases q with (q | q) | q
  · exact Or.inl (vi_Wp_in q)
  · exact Or.inr (Or.inl q)
  · exact Or.inr (Or.inr (vn_Wa_ge q))
section
variable {ab pi : Nat}
theorem vi_a1 (hab : ab = 617 ∨ ab = 621) : vi_ex (fun a k => (vi_Wp ab a k ∨ a = 672) ∨ vn_Wa a k) := by
  refine ⟨⟨fun q => ?_, fun q => ?_, fun q => ?_⟩, ⟨fun q => ?_, fun q => ?_, fun q => ?_, fun q => ?_, fun q => ?_, fun q => ?_⟩, fun a k q => ?_, fun a k h1 h2 q => ?_, fun q => ?_⟩ <;> have t := vi_a0 q <;> clear q <;> omega
theorem vi_a2 (hab : ab = 617 ∨ ab = 621) (hp : pi = 39 ∨ pi = 328) : ∀ a k, pi ≤ a → a < pi + 289 → ¬ ((vi_Wp ab a k ∨ a = 672) ∨ vn_Wa a k) := fun a k h1 h2 q => by
  have t := vi_a0 q
  clear q
  omega
theorem vi_a3 (hab : ab = 617 ∨ ab = 621) : ¬ ((vi_Wp ab 1 8 ∨ (1 : Nat) = 672) ∨ vn_Wa 1 8) ∧ ¬ ((vi_Wp ab 625 11 ∨ (625 : Nat) = 672) ∨ vn_Wa 625 11) ∧ ¬ ((vi_Wp ab 625 31 ∨ (625 : Nat) = 672) ∨ vn_Wa 625 31) ∧ ¬ ((vi_Wp ab 625 32 ∨ (625 : Nat) = 672) ∨ vn_Wa 625 32) := by
  refine ⟨fun q => ?_, fun q => ?_, fun q => ?_, fun q => ?_⟩ <;> have t := vi_a0 q <;> clear q <;> omega
theorem vi_Wp_lo (hab : ab = 617 ∨ ab = 621) : ∀ a k, (vi_Wp ab a k ∨ a = 672) → a < 625 ∨ 664 < a := fun a k q => by
  rcases q with q | q
  · have t := vi_Wp_in q
    clear q
    omega
  · omega
end
section
variable {h g h2 : ve_H} {pi pj sd ab : Nat} {S S' : vu_S} {st : Nat → Nat} {F : vy_F}
theorem vj_5_fin (P : vi_P h pi sd S S' st) (r4 : ve_R h 1 4 = some pj) (pp : (pi = 39 ∧ pj = 328) ∨ (pi = 328 ∧ pj = 39)) (pg : vi_pg S S' st) (M : vx_J h 1 8 = 1 → vi_M h S st) (W : vi_W h) (s : vi_S h) (hab : ab = 617 ∨ ab = 621)
    (F1 : vx_fq (fun a k => vi_Wp ab a k ∨ a = 672) h g) (k24 : vx_J g 2 4 = 0) (k11 : vx_J g 1 11 = F.1) (k12 : vx_J g 1 12 = F.2)
    (F2 : vx_fr vn_Wa g h2) (b2 : vx_J h2 625 2 = 0) (rf : vy_rf h2 F) (s10 : (0 ≤ vx_J h2 1 10 ∧ vx_J h2 1 10 ≤ 500) ∧ vx_J h2 625 37 = vx_J h2 1 10) (AB : ∃ aa ab n ac ar o, vi_A h2 aa n ac ar o ∧ vi_B h2 aa ab) : vi_I h2 := by
  have opi := P.2.1.1.1
  have hp : pi = 39 ∨ pi = 328 := (vx_po opi).2.2.2.2.2.2
  have sd2 := P.2.2.2.2.2.2.2.1.1.1.1
  have f : vx_fq (fun a k => (vi_Wp ab a k ∨ a = 672) ∨ vn_Wa a k) h h2 := vx_fq_l (vx_fq_mono F1 (fun a k q => Or.inl q)) (vx_fr_mono F2 (fun a k q => Or.inr q))
  have x := vi_a1 hab
  have z := vi_a3 hab
  have lo := vi_Wp_lo hab
  have CT := vi_nCT x.1.1 (vi_a2 hab hp)
  have na : ∀ a k, a < 625 → ¬ vn_Wa a k := fun a k ha q => absurd (vn_Wa_ge q).1 (Nat.not_le.mpr ha)
  have u : ∀ k, vx_J h2 1 k = vx_J g 1 k := fun k => vx_fr_J F2 (na 1 k (by decide))
  have j8 : vx_J h2 1 8 = vx_J h 1 8 := vx_fq_J f z.1
  have j9 : vx_J h2 1 9 = vx_J h 1 9 := vx_fq_J f x.1.2.2
  obtain ⟨s1, s2, s3, s4, s5, s6, s7, s8⟩ := s
  refine ⟨⟨pi, pj, sd, S, S', st, vi_P_q P pg.2.1.2.2.2.2 f (vx_fq_J f z.2.1) CT.1 CT.2 (vi_nR_or lo (vn_Wa_r sd2)) (vi_nF_or lo (vn_Wa_f sd2)), (vx_fq_R f x.1.2.1).trans r4, pp, pg, fun q => vi_M_q (M (j8.symm.trans q)) f (vx_fq_J f z.2.2.2) x.2.2.1 x.2.2.2.1⟩, AB, ⟨0, fun _ => 0, ⟨(vx_fr_J F2 (na 2 4 (by decide))).trans k24, Nat.zero_le _, fun i hi => absurd hi (Nat.not_lt_zero i)⟩, b2, Nat.zero_le _, fun i hi => absurd hi (Nat.not_lt_zero i)⟩, vi_W_q W f x.2.1, ?_⟩
  refine ⟨by rw [j8]; exact s1, by rw [j8, vx_fq_J f z.2.2.1]; exact s2, by rw [j9]; exact s3, by rw [j9, vx_fq_J f x.2.2.2.2]; exact s4, s10.1, s10.2, ?_, ?_⟩
  · rw [rf.1, u 11]; exact k11.symm
  · rw [rf.2, u 12]; exact k12.symm
end
section
variable {d L : Nat} {xs : Nat → Int32} {h : ve_H}
theorem vj_5 (hT : vx_TL L xs h) (I : vi_I h) (rk : ve_rk h 6 = true) : vl_X (d + 13) L xs (vi_J h) 212 94 [] h := by
  obtain ⟨⟨pi, pj, sd, S, S', st, P, r4, pp, pg, M⟩, ⟨aa, ab, m, ac0, ar0, o0, A, B⟩, ⟨n, c, T⟩, W, s⟩ := I
  have P0 := P
  obtain ⟨p1, p2, p3, p4, p5, p6, p7, p8, p9⟩ := P0
  have C := p2.1
  have sd2 := p8.1.1.1
  have hab : ab = 617 ∨ ab = 621 := by
    rcases B.2 with ⟨_, t⟩ | ⟨_, t⟩
    · exact Or.inr t
    · exact Or.inl t
  have wab : vx_J h ab 0 = (8 : Nat) := by
    rcases hab with t | t
    · rw [t]; exact W.2.2.1
    · rw [t]; exact W.2.2.2.1
  obtain ⟨ok, ok2, ok3⟩ := vt_toks_ok T.1.2.1 (fun j hj => (T.1.2.2 j hj).2)
  have s31 := s.2.1
  have s5 := s.2.2.2.2.1
  have s6 := s.2.2.2.2.2.1
  obtain ⟨cnt, rr, cm, cnt', rr', cm', HM⟩ : ∃ cnt rr cm cnt' rr' cm', vx_J h 1 8 = 1 → ((vm_M h cnt rr cm ∨ S.1.1 = 0) ∧ ∀ i, i < cnt → vm_vr (rr i)) ∧ (vn_T h S.1 cnt' rr' cm' ∧ cnt' ≤ 200) ∧ vn_D cnt' rr' = (fun f => ∃ i, i < cnt ∧ vr_eq 5 (rr i) f) := by
    by_cases q : vx_J h 1 8 = 1
    · obtain ⟨cnt, rr, cm, o, cnt', rr', cm', m1, m2, m3, m4, m5, m6, m7, m8⟩ := M q
      refine ⟨cnt, rr, cm, cnt', rr', cm', fun _ => ⟨⟨?_, m3.2.1⟩, ⟨m6, m7⟩, ?_⟩⟩
      · rcases m1 with t | t
        · exact Or.inl t
        · exact Or.inr t.1
      · funext f
        exact propext ((m8.1 f).symm.trans (m3.1 f))
    · exact ⟨0, fun _ _ => 0, fun _ => 0, 0, fun _ _ => 0, fun _ => 0, fun t => absurd t q⟩
  obtain ⟨Q, eQ⟩ : ∃ Q, vu_qc (vt_toks c n 600 0) S.1 = Q := ⟨_, rfl⟩
  have wp : ∀ a k, vi_Wp ab a k → a < 625 := fun a k q => by
    have t := vi_Wp_in q
    clear q
    omega
  have REF : ∀ g, vx_TL L xs g → vx_fq (fun a k => vi_Wp ab a k ∨ a = 672) h g → vx_CI (d + 13) 94 [.ref 625] g (fun r h1 => vx_fr vn_Wa g h1 ∧ vx_J h1 625 2 = 0 ∧ vn_qO Q cnt' rr' g r h1) := by
    intro g Tg f
    have F := vx_fq_h f
    have p8' : vn_pc (vx_hn h g) sd S' st := p8
    have nn : ∀ a k, 625 ≤ a → a ≠ 672 → ¬ (vi_Wp ab a k ∨ a = 672) := fun a k h1 h2 q => by
      rcases q with q | q
      · have := wp a k q; omega
      · exact h2 q
    have e5 : ∀ k, vx_J g 625 k = vx_J h 625 k := fun k => vx_fq_J f (nn _ _ (by decide) (by decide))
    have rp : vy_rp g sd S.1 := by
      rw [← p9.1]
      exact vy_rp_fr p8'.1.1 F ⟨nn _ _ (by decide) (by decide), fun k _ _ => ⟨nn _ _ (by decide) (by decide), nn _ _ (by decide) (by decide)⟩⟩
    have t := vc_94 (d := d + 3) (cnt := cnt') (rr := rr') (cm := cm') (vx_TLT Tg) (n := n) (c := c) ⟨(e5 2).trans T.2.1, T.2.2.1, fun i hi => ⟨(vx_fq_J f (nn _ _ (by decide) (by decide))).trans (T.2.2.2 i hi).1, (T.2.2.2 i hi).2⟩⟩ sd2 ((e5 11).trans p8.1.2) rp (fun q => by
      have q1 : vx_J h 1 8 = 1 := by rw [← s31, ← e5 31]; exact q
      have t1 := (HM q1).2.1
      have t2 : vn_T (vx_hn h g) S.1 cnt' rr' cm' := t1.1
      exact ⟨vn_T_f t2 F (e5 32) (fun a k h1 h2 => nn _ _ (by omega) (by omega)), t1.2⟩) (by rw [e5 37, s6]; exact s5)
    rw [eQ] at t
    exact t
  have e5 : ∀ {g : ve_H} (k : Nat), vx_fq (fun a k => vi_Wp ab a k ∨ a = 672) h g → vx_J g 625 k = vx_J h 625 k := fun k f => vx_fq_J f (fun q => by
    rcases q with q | q
    · have := wp _ _ q; omega
    · exact absurd q (by decide))
  have ua : ∀ {g h2 : ve_H} (a k : Nat), vx_fr vn_Wa g h2 → a < 625 → vx_J h2 a k = vx_J g a k ∧ ve_R h2 a k = ve_R g a k := fun a k F ha => by
    have no : ¬ vn_Wa a k := fun q => by
      have t := vn_Wa_ge q
      clear q
      omega
    exact ⟨vx_fr_J F no, vx_fr_R F no⟩
  have nu : ∀ {g h2 : ve_H}, vx_fq (fun a k => vi_Wp ab a k ∨ a = 672) h g → vx_fr vn_Wa g h2 → ve_n h2 ≤ ve_n h + 1 ∧ ve_u h2 ≤ ve_u h + 6 := fun f F => ⟨by rw [F.1.1]; exact f.1.1, by rw [F.1.2]; exact f.1.2⟩
  refine vg_212 (d := d + 12) hT.1 (vx_CX_mono (vc_6 (d := d) (vx_TLC hT) T.1 p1 C p3 A.1 B.1 A.2.1 hab wab (fun q => (HM q).1) s5 (fun h1 e1 e2 => vx_rk_e rk e1 e2)) ?_ ?_)
  · rw [eQ]
    rintro r h1 hr ⟨f, eF, q8, q10, F1, k11, k12, k24, r5, r6, k7, k10, Ax, ac, ar, o, er, fP, hc, aS, so, oj⟩ _ g eg _ Tg
    have Fg : vx_fr (fun a _ => a = 672) h1 g := vx_fr_sK vx_fr_refl eg rfl
    have kg : vx_K g 672 0 = r := by rw [eg, vx_K_eq (show vx_rL r by omega)]
    have f1 : vx_fq (fun a k => vi_Wp ab a k ∨ a = 672) h g := vx_fq_fr (vx_fr_trans (vx_fr_mono F1 (fun a k q => Or.inl q)) (vx_fr_mono Fg (fun a k q => Or.inr q)))
    have a1 := vm_aS_q aS
    refine vx_CI_mono (REF g Tg f1) ?_
    rintro b h2 _ ⟨F2, b2, rO⟩ T2
    rw [eF] at rO
    obtain ⟨rf, c2⟩ := rO
    have eD := (HM q8).2.2
    have ug : ∀ a k, a < 625 → vx_J h2 a k = vx_J h1 a k ∧ ve_R h2 a k = ve_R h1 a k := fun a k ha => ⟨(ua a k F2 ha).1.trans (vx_fr_J Fg (by omega)), (ua a k F2 ha).2.trans (vx_fr_R Fg (by omega))⟩
    rcases c2 with ⟨_, _, c3⟩ | ⟨j0, _, _, j37, j39, ac', ar', eb, j38, hc', aS', dj', vals⟩
    · exfalso
      rcases c3 with t | t | t
      · exact t (by rw [e5 31 f1, s31]; exact q8)
      · rw [e5 37 f1, s6] at t; omega
      · rw [eD] at t
        exact vm_aS_not a1 hc t
    · rw [eD] at aS'
      have x1 := vm_aS_cnt a1 fP.2.2.2.2.2 aS'
      have x2 := vm_aS_cnt aS' dj' a1
      have ec : ac' = ac := by omega
      have n8 : f.2.1 ≤ 8 := (vu_qc_w ok ok2 ok3 (eQ.trans eF)).2.2.1
      have AA := vi_pl (rr' := ar') so x2.2
      have so8 := vn_ah_so so ec dj' AA
      have nA : vi_A h2 ab f.2.1 ac ar o := by
        have ta := vm_ta hab
        refine ⟨(ug _ _ (by decide)).2.trans r5, hab, ?_, hc, (ug _ _ (by decide)).1.trans k7, n8, fun j hj => ⟨so.1 j hj, (ug _ _ (by omega)).1.trans (oj j hj)⟩, by rw [j38, ec], j39, fun j hj v hv => ?_⟩
        · have FZ : vx_fr (fun a k => a = 672 ∨ vn_Wa a k) h1 h2 := vx_fr_trans (vx_fr_mono Fg (fun a k q => Or.inl q)) (vx_fr_mono F2 (fun a k q => Or.inr q))
          refine vr_P_fr fP ta.1 FZ (fun b k q t => ?_)
          have t2 := ta.2.2
          rcases t with t | t
          · omega
          · have t3 := vn_Wa_ge t
            clear t
            omega
        · obtain ⟨i, i1, i2, i3⟩ := so8 j hj
          have t := vals i i1 v hv
          rw [vn_ah_n n8 (vm_aS_z aS') i1, i3, i2 v (by omega)] at t
          exact t
      have e10 : vx_J h2 1 10 = vx_J h 1 10 + 1 := (ug _ _ (by decide)).1.trans k10
      refine ⟨j0, fun _ => ?_, vj_5_fin P r4 pp pg M W s hab f1 ((vx_fr_J Fg (by omega)).trans k24) ((vx_fr_J Fg (by omega)).trans k11) ((vx_fr_J Fg (by omega)).trans k12) F2 b2 rf ⟨by rw [e10]; omega, by rw [j37, e5 37 f1, s6, e10]⟩ ⟨ab, aa, f.2.1, ac, ar, o, nA, (ug _ _ (by decide)).2.trans r6, ?_⟩, nu f1 F2⟩
      · rw [vx_fr_K F2 (fun q => by
          have t := vn_Wa_ge q
          clear q
          omega), kg, er, eb, ec]
      · have := B.2
        omega
  · rw [eQ]
    rintro kx h1 ⟨F1, k24, w1, cc⟩ _
    have f1 : vx_fq (fun a k => vi_Wp ab a k ∨ a = 672) h h1 := vx_fq_mono F1 (fun a k q => Or.inl (Or.inl q))
    have nq : ∀ k, k = 5 ∨ k = 6 ∨ k = 7 ∨ k = 10 → ¬ vi_Wq ab 1 k := fun k hk q => by
      rcases q with q | q
      · have t := vi_Wr_in q
        clear q cc
        omega
      · exact vi_nk hab (by decide) q
    -- the answers stay
    have keep : ∀ {h2 : ve_H}, vx_fr vn_Wa h1 h2 → vn_ks h1 h2 → (∃ aa ab n ac ar o, vi_A h2 aa n ac ar o ∧ vi_B h2 aa ab) ∧ (0 ≤ vx_J h2 1 10 ∧ vx_J h2 1 10 ≤ 500) ∧ vx_J h2 625 37 = vx_J h2 1 10 := by
      intro h2 F2 ks
      have f : vx_fq (fun a k => vi_Wq ab a k ∨ vn_Wa a k) h h2 := vx_fq_l (vx_fq_mono F1 (fun a k q => Or.inl q)) (vx_fr_mono F2 (fun a k q => Or.inr q))
      have n1 : ∀ k, k = 5 ∨ k = 6 ∨ k = 7 ∨ k = 10 → ¬ (vi_Wq ab 1 k ∨ vn_Wa 1 k) := fun k hk q => by
        rcases q with q | q
        · exact nq k hk q
        · have t := vn_Wa_ge q
          clear q
          omega
      have e653 : ∀ k, vx_K h1 653 k = vx_K h 653 k := fun k => vx_fq_K f1 (fun q => by
        rcases q with q | q
        · have := wp _ _ q; omega
        · exact absurd q (by decide))
      have bb := B.2
      refine ⟨⟨aa, ab, m, ac0, ar0, o0, vi_A_q A f ⟨⟨n1 _ (by omega), n1 _ (by omega)⟩, fun a k h1 h2 q => ?_⟩ (ks.2.1.trans (e5 _ f1)) (ks.2.2.1.trans (e5 _ f1)) (fun k => (ks.2.2.2 k).trans (e653 k)), (vx_fq_R f (n1 _ (by omega))).trans B.1, B.2⟩, ?_, ?_⟩
      · rcases q with q | q
        · have t := vi_Wp_in (Or.inl q)
          clear q
          omega
        · have t := vn_Wa_ge q
          clear q
          omega
      · rw [vx_fq_J f (n1 10 (by omega))]; exact s5
      · rw [vx_fq_J f (n1 10 (by omega)), ks.1, e5 37 f1]; exact s6
    rcases cc with ⟨ek, F, eF, F0, k11, k12⟩ | ⟨ek, f, Ax, eF, k11, k12, why⟩
    · refine Or.inl ⟨ek, fun T1 => vx_CI_mono (REF h1 T1 f1) ?_⟩
      rintro b h2 _ ⟨F2, b2, rO⟩ T2
      rw [eF] at rO
      obtain ⟨j0, _, rf, ks⟩ := rO
      have kk := keep F2 ks
      exact ⟨j0, fun t => absurd t (by decide), vj_5_fin P r4 pp pg M W s hab f1 k24 k11 k12 F2 b2 rf kk.2 kk.1, nu f1 F2⟩
    · refine Or.inr ⟨ek, fun T1 => vx_CI_mono (REF h1 T1 f1) ?_⟩
      rintro b h2 _ ⟨F2, b2, rO⟩ T2
      rw [eF] at rO
      obtain ⟨rf, c2⟩ := rO
      rcases c2 with ⟨j0, ks, _⟩ | ⟨_, t31, t37, _, _, ac', ar', _, _, hc', aS', _, _⟩
      · have kk := keep F2 ks
        exact ⟨j0, fun t => absurd t (by decide), vj_5_fin P r4 pp pg M W s hab f1 k24 k11 k12 F2 b2 rf kk.2 kk.1, nu f1 F2⟩
      · exfalso
        rw [e5 31 f1, s31] at t31
        rw [e5 37 f1, s6] at t37
        rcases why with t | t | t
        · exact t t31
        · exact t37 t
        · rw [(HM t31).2.2] at aS'
          exact vm_aS_not aS' hc' (vm_aB_q t)
end
