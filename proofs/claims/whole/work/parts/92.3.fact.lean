/-! fact: class and reference -/
theorem vu_SW_ge {sd a k : Nat} (sd2 : sd < 2) (q : vu_SW sd a k) : 625 ≤ a ∧ (a = 625 → k ≠ 11 ∧ k ≠ 36 ∧ k ≠ 37 ∧ k ≠ 38 ∧ k ≠ 39) ∧ a ≠ 626 ∧ a ≠ 634 ∧ a ≠ 635 ∧ (a < 650 ∨ 654 < a) ∧ a ≤ 664 := by
  unfold vu_SW at q
  omega
theorem vu_SW_r {sd : Nat} (sd2 : sd < 2) : vi_nR (vu_SW sd) sd := by
  unfold vi_nR vu_SW
  refine ⟨by omega, fun k h1 h2 => by omega, fun k h1 h2 => ⟨by omega, by omega, by omega, by omega, by omega, by omega⟩, fun k h1 h2 => ⟨by omega, by omega⟩, fun k h1 h2 => ⟨by omega, by omega, by omega, by omega⟩, fun k h1 h2 => ⟨by omega, by omega⟩⟩
theorem vi_f0 {pi sd a k : Nat} (opi : vx_o 1 625 5 pi) (sd2 : sd < 2) (q : (vi_Wf pi a k ∨ a = 672) ∨ vu_SW sd a k) : ((a = 1 ∧ (k = 8 ∨ k = 11 ∨ k = 12)) ∨ (2 ≤ a ∧ a ≤ 20) ∨ (a = pi + 6 ∧ k = 4) ∨ (pi + 7 ≤ a ∧ a ≤ pi + 9)) ∨ a = 672 ∨ (625 ≤ a ∧ (a = 625 → k ≠ 11 ∧ k ≠ 36 ∧ k ≠ 37 ∧ k ≠ 38 ∧ k ≠ 39) ∧ a ≠ 626 ∧ a ≠ 634 ∧ a ≠ 635 ∧ (a < 650 ∨ 654 < a) ∧ a ≤ 664) := by
  rcases q with (q | q) | q
  · exact Or.inl (vi_Wf_in opi q)
  · exact Or.inr (Or.inl q)
  · exact Or.inr (Or.inr (vu_SW_ge sd2 q))
section
variable {pi sd : Nat}
theorem vi_f1 (opi : vx_o 1 625 5 pi) (hp : pi = 39 ∨ pi = 328) (sd2 : sd < 2) : vi_ex (fun a k => (vi_Wf pi a k ∨ a = 672) ∨ vu_SW sd a k) := by
  refine ⟨⟨fun q => ?_, fun q => ?_, fun q => ?_⟩, ⟨fun q => ?_, fun q => ?_, fun q => ?_, fun q => ?_, fun q => ?_, fun q => ?_⟩, fun a k q => ?_, fun a k h1 h2 q => ?_, fun q => ?_⟩ <;> have t := vi_f0 opi sd2 q <;> clear q opi <;> omega
theorem vi_f2 (opi : vx_o 1 625 5 pi) (hp : pi = 39 ∨ pi = 328) (sd2 : sd < 2) : vi_eA (fun a k => (vi_Wf pi a k ∨ a = 672) ∨ vu_SW sd a k) := by
  refine ⟨⟨fun q => ?_, fun q => ?_, fun q => ?_, fun q => ?_⟩, fun a k h1 h2 q => ?_, ⟨fun q => ?_, fun q => ?_, fun q => ?_⟩, fun k q => ?_⟩ <;> have t := vi_f0 opi sd2 q <;> clear q opi <;> omega
theorem vi_f3 (opi : vx_o 1 625 5 pi) (hp : pi = 39 ∨ pi = 328) (sd2 : sd < 2) : vi_nC (fun a k => (vi_Wf pi a k ∨ a = 672) ∨ vu_SW sd a k) pi := by
  refine ⟨fun q => ?_, ⟨fun q => ?_, fun q => ?_, fun q => ?_⟩, fun k => ⟨fun q => ?_, fun q => ?_, fun q => ?_⟩, fun a k h1 h2 q => ?_⟩ <;> have t := vi_f0 opi sd2 q <;> clear q opi <;> omega
theorem vi_f4 (opi : vx_o 1 625 5 pi) (hp : pi = 39 ∨ pi = 328) (sd2 : sd < 2) : (¬ ((vi_Wf pi 625 11 ∨ (625 : Nat) = 672) ∨ vu_SW sd 625 11)) ∧ (∀ k, ¬ ((vi_Wf pi 634 k ∨ (634 : Nat) = 672) ∨ vu_SW sd 634 k)) ∧ ∀ k, ¬ ((vi_Wf pi 635 k ∨ (635 : Nat) = 672) ∨ vu_SW sd 635 k) := by
  refine ⟨fun q => ?_, fun k q => ?_, fun k q => ?_⟩ <;> have t := vi_f0 opi sd2 q <;> clear q opi <;> omega
theorem vi_Wf_lo (opi : vx_o 1 625 5 pi) (hp : pi = 39 ∨ pi = 328) : ∀ a k, (vi_Wf pi a k ∨ a = 672) → a < 625 ∨ 664 < a := fun a k q => by
  rcases q with q | q
  · have t := vi_Wf_in opi q
    clear q opi
    omega
  · omega
end
section
variable {h g h2 : ve_H} {pi pj sd aa ab m ac c1 c2 : Nat} {S S' : vu_S} {st : Nat → Nat} {ar r1 r2 : Nat → Nat → Int} {o : Nat → Nat} {F : vy_F}
theorem vj_2_fin (P : vi_P h pi sd S S' st) (r4 : ve_R h 1 4 = some pj) (pp : (pi = 39 ∧ pj = 328) ∨ (pi = 328 ∧ pj = 39)) (pg : vi_pg S S' st) (M : vx_J h 1 8 = 1 → vi_M h S st) (A : vi_A h aa m ac ar o) (B : vi_B h aa ab) (W : vi_W h) (s : vi_S h)
    (F1 : vx_fq (fun a k => vi_Wf pi a k ∨ a = 672) h g) (k24 : vx_J g 2 4 = 0) (k11 : vx_J g 1 11 = F.1) (k12 : vx_J g 1 12 = F.2) (fP : vr_P (pi + 6) 5 c1 r1 g)
    (F2 : vx_fr (vu_SW sd) g h2) (b2 : vx_J h2 625 2 = 0) (rf : vy_rf h2 F) (rp : vy_rp h2 sd S'.1) (N : vu_rN h2 sd S'.1 c2 r2)
    (E1 : vi_E (vi_set S c1 r1) (vi_set S' c2 r2)) (c200 : c1 ≤ 200) (w1 : ∀ j, j < c1 → vu_wA S.1 (r1 j)) (w2 : ∀ j, j < c2 → vu_wA S'.1 (r2 j))
    (st8 : (vx_J g 1 8 = 0 ∧ vx_J h2 625 31 = 0) ∨ (vx_J g 1 8 = vx_J h 1 8 ∧ vx_J h2 625 31 = vx_J g 625 31 ∧ vx_J h2 625 32 = vx_J g 625 32 ∧ c1 = S.2.2.2.2.1 ∧ r1 = S.2.2.2.2.2)) : vi_I h2 := by
  obtain ⟨p1, p2, p3, p4, p5, p6, p7, p8, p9⟩ := P
  have opi := p2.1.1
  have hp : pi = 39 ∨ pi = 328 := (vx_po opi).2.2.2.2.2.2
  have sd2 := p8.1.1.1
  have n30 := pg.2.1.2.2.2.2
  have f : vx_fq (fun a k => (vi_Wf pi a k ∨ a = 672) ∨ vu_SW sd a k) h h2 := vx_fq_l (vx_fq_mono F1 (fun a k q => Or.inl q)) (vx_fr_mono F2 (fun a k q => Or.inr q))
  have x := vi_f1 opi hp sd2
  have y := vi_f2 opi hp sd2
  have z := vi_f4 opi hp sd2
  have lo := vi_Wf_lo opi hp
  have nw : ∀ a k, a < 625 → ¬ vu_SW sd a k := fun a k ha q => absurd (vu_SW_ge sd2 q).1 (Nat.not_le.mpr ha)
  have C2 : vi_C h2 pi S st := by
    have C' : vi_C (vx_hn h h2) pi S st := ⟨p1, p2, p3, p6⟩
    exact vi_C_f C' (vx_fq_h f) (vi_f3 opi hp sd2)
  have fP2 : vr_P (pi + 6) 5 c1 r1 h2 := by
    have l6 : ∀ b, b < 10 → pi + b < 625 := fun b hb => by
      rcases hp with t | t <;> rw [t] <;> omega
    refine vi_F_f opi fP F2 ⟨⟨nw _ _ (l6 6 (by decide)), nw _ _ (l6 6 (by decide))⟩, fun a k h1 h2 => nw _ _ (Nat.lt_of_le_of_lt h2 (l6 9 (by decide)))⟩
  have ro : vi_nR (fun a k => (vi_Wf pi a k ∨ a = 672) ∨ vu_SW sd a k) sd := vi_nR_or lo (vu_SW_r sd2)
  have pc2 : vn_pc h2 sd (vi_set S' c2 r2) st := by
    have p8' : vn_pc (vx_hn h h2) sd S' st := p8
    have F' := vx_fq_h f
    exact ⟨⟨rp, (vx_fr_J F' z.1).trans p8'.1.2⟩, (vx_fr_J F' (z.2.2 _)).trans p8'.2.1, vn_rules_fr n30 p8'.2.2.1 F' ro, fun p hp => (vx_fr_J F' (z.2.1 _)).trans (p8'.2.2.2.1 p hp), N⟩
  have u : ∀ k, vx_J h2 1 k = vx_J g 1 k := fun k => vx_fr_J F2 (nw 1 k (by decide))
  have j9 : vx_J h2 1 9 = vx_J h 1 9 := vx_fq_J f x.1.2.2
  have j10 : vx_J h2 1 10 = vx_J h 1 10 := vx_fq_J f y.1.2.2.2
  have g5 : ∀ k, vx_J g 625 k = vx_J h 625 k := fun k => vx_fq_J F1 (fun q => by
    have t := lo _ _ q
    clear q
    omega)
  obtain ⟨s1, s2, s3, s4, s5, s6, s7, s8⟩ := s
  refine ⟨⟨pi, pj, sd, vi_set S c1 r1, vi_set S' c2 r2, st, ⟨C2.1, C2.2.1, C2.2.2.1, fP2, c200, C2.2.2.2, p7, pc2, E1⟩, (vx_fq_R f x.1.2.1).trans r4, pp, ⟨⟨⟨pg.1.1.1, w1⟩, pg.1.2⟩, ⟨⟨pg.2.1.1.1, w2⟩, pg.2.1.2⟩, pg.2.2.1, pg.2.2.2.1, pg.2.2.2.2⟩, fun q => ?_⟩, ⟨aa, ab, m, ac, ar, o, vi_A_e A B f y⟩, ⟨0, fun _ => 0, ⟨(vx_fr_J F2 (nw 2 4 (by decide))).trans k24, Nat.zero_le _, fun i hi => absurd hi (Nat.not_lt_zero i)⟩, b2, Nat.zero_le _, fun i hi => absurd hi (Nat.not_lt_zero i)⟩, vi_W_q W f x.2.1, ?_⟩
  · rcases st8 with ⟨t, _⟩ | ⟨t1, t2, t3, t4, t5⟩
    · exact absurd ((u 8).symm.trans q) (by rw [t]; decide)
    · subst t4 t5
      have q' : vx_J h 1 8 = 1 := by rw [← t1, ← u 8]; exact q
      exact vi_M_q (M q') f (t3.trans (g5 32)) x.2.2.1 x.2.2.2.1
  · have e8 : (vx_J h2 1 8 = 0 ∨ vx_J h2 1 8 = 1 ∨ vx_J h2 1 8 = 2) ∧ vx_J h2 625 31 = vx_J h2 1 8 := by
      rcases st8 with ⟨t, t2⟩ | ⟨t1, t2, _⟩
      · rw [u 8, t, t2]; exact ⟨Or.inl rfl, rfl⟩
      · rw [u 8, t1, t2, g5]; exact ⟨s1, s2⟩
    refine ⟨e8.1, e8.2, by rw [j9]; exact s3, ?_, by rw [j10]; exact s5, ?_, ?_, ?_⟩
    · rw [j9, vx_fq_J f x.2.2.2.2]; exact s4
    · rw [j10, vx_fq_J f y.2.2.1.1]; exact s6
    · rw [rf.1, u 11]; exact k11.symm
    · rw [rf.2, u 12]; exact k12.symm
end
section
variable {d L : Nat} {xs : Nat → Int32} {h : ve_H} {x : Int}
theorem vj_2 (hT : vx_TL L xs h) (I : vi_I h) (rk : ve_rk h 6 = true) (hx : vx_rI x) : vl_Z (d + 8) L xs (vi_J h) 210 63 [.int (vx_i x)] h := by
  obtain ⟨⟨pi, pj, sd, S, S', st, P, r4, pp, pg, M⟩, ⟨aa, ab, m, ac, ar, o, A, B⟩, ⟨n, c, T⟩, W, s⟩ := I
  have P0 := P
  obtain ⟨p1, p2, p3, p4, p5, p6, p7, p8, p9⟩ := P0
  have C := p2.1
  have opi := C.1
  have fK := (vu_fK opi).2
  have sd2 := p8.1.1.1
  have n30 := pg.2.1.2.2.2.2
  obtain ⟨ok, ok2, ok3⟩ := vt_toks_ok T.1.2.1 (fun j hj => (T.1.2.2 j hj).2)
  have rk' : ∀ h1, ve_n h1 = ve_n h → ve_u h1 = ve_u h → ve_rk h1 6 = true := fun h1 e1 e2 => vx_rk_e rk e1 e2
  have wlo : ∀ a k, vi_Wf pi a k → a < 625 := fun a k q => by
    have t := vi_Wf_in opi q
    clear q
    omega
  have rw_ : ∀ a k, vi_Wr a k → vi_Wf pi a k := fun a k q => Or.inl q
  -- the reference's state where the class has ended
  have J5 : ∀ {g : ve_H}, vx_fq (fun a k => vi_Wf pi a k ∨ a = 672) h g → vt_tr g n c ∧ vx_J g 625 11 = sd ∧ vy_rp g sd S'.1 ∧ vu_rN g sd S'.1 S'.2.2.2.2.1 S'.2.2.2.2.2 := by
    intro g f
    have F := vx_fq_h f
    have p8' : vn_pc (vx_hn h g) sd S' st := p8
    have nn : ∀ a k, 625 ≤ a → a ≠ 672 → ¬ (vi_Wf pi a k ∨ a = 672) := fun a k h1 h2 q => by
      rcases q with q | q
      · have := wlo a k q; omega
      · exact h2 q
    refine ⟨⟨(vx_fq_J f (nn _ _ (by decide) (by decide))).trans T.2.1, T.2.2.1, fun i hi => ⟨(vx_fq_J f (nn _ _ (by decide) (by decide))).trans (T.2.2.2 i hi).1, (T.2.2.2 i hi).2⟩⟩, (vx_fq_J f (nn _ _ (by decide) (by decide))).trans p8.1.2, vy_rp_fr p8'.1.1 F ⟨nn _ _ (by decide) (by decide), fun k _ _ => ⟨nn _ _ (by decide) (by decide), nn _ _ (by decide) (by decide)⟩⟩, vu_rN_fr p8'.2.2.2.2 F (fun k => ⟨nn _ _ (by decide) (by decide), nn _ _ (by decide) (by decide), nn _ _ (by decide) (by decide)⟩)⟩
  have cnt' := p9.2.2.2.1
  have Es := p9.2.2.2.2
  have dj := p4.2.2.2.2.2
  have wA := pg.1.1.2
  have wA' := pg.2.1.1.2
  have E0 : vi_E (vi_set S S.2.2.2.2.1 S.2.2.2.2.2) (vi_set S' S'.2.2.2.2.1 S'.2.2.2.2.2) := p9
  have fP : ∀ {g : ve_H}, vx_fq vi_Wr h g → vr_P (pi + 6) 5 S.2.2.2.2.1 S.2.2.2.2.2 g := by
    intro g f
    have P' : vr_P (pi + 6) 5 S.2.2.2.2.1 S.2.2.2.2.2 (vx_hn h g) := p4
    have nw : ∀ a k, 21 ≤ a → ¬ vi_Wr a k := fun a k ha q => by
      have t := vi_Wr_in q
      clear q
      omega
    have ppo := (vx_po opi).2.2.2.2.2.2
    exact vi_F_f opi P' (vx_fq_h f) ⟨⟨nw _ _ (by omega), nw _ _ (by omega)⟩, fun a k h1 h2 => nw _ _ (by omega)⟩
  have j8r : ∀ {g : ve_H}, vx_fq vi_Wr h g → vx_J g 1 8 = vx_J h 1 8 := fun f => vx_fq_J f (fun q => by
    have t := vi_Wr_in q
    clear q
    omega)
  have up : ∀ {g g2 : ve_H}, vx_fq vi_Wr h g → vx_fr (fun a _ => a = 672) g g2 → vx_fq (fun a k => vi_Wf pi a k ∨ a = 672) h g2 := fun f F => vx_fq_l (vx_fq_mono f (fun a k q => Or.inl (rw_ a k q))) (vx_fr_mono F (fun a k q => Or.inr q))
  have up0 : ∀ {g : ve_H}, vx_fq vi_Wr h g → vx_fq (fun a k => vi_Wf pi a k ∨ a = 672) h g := fun f => vx_fq_mono f (fun a k q => Or.inl (rw_ a k q))
  have n1 : ∀ {g : ve_H} {k : Nat}, vx_fr (fun a _ => a = 672) h g → vx_J g 1 k = vx_J h 1 k := fun F => vx_fr_J F (by omega)
  by_cases h01 : x = 0 ∨ x = 1
  · have REF : ∀ g, vx_TL L xs g → vx_fq (fun a k => vi_Wf pi a k ∨ a = 672) h g → vx_CI (d + 8) 63 [.ref 625, .int (vx_i x)] g (fun r h1 => vx_fr (vu_SW sd) g h1 ∧ vx_J h1 625 2 = 0 ∧ vy_rp h1 sd S'.1 ∧ vu_fO x sd S'.1 S'.2.2.2.2.1 S'.2.2.2.2.2 (vu_fc (vt_toks c n 600 0) S.1) g r h1) := by
      intro g Tg f
      obtain ⟨x1, x2, x3, x4⟩ := J5 f
      have t := vd_63 (d := d + 3) (vx_TLT Tg) x1 sd2 h01 x2 x3 x4
      rw [show vu_fc (vt_toks c n 600 0) S'.1 = vu_fc (vt_toks c n 600 0) S.1 by rw [p9.1]] at t
      exact t
    have ek : ∀ {g h2 : ve_H}, vx_fr (vu_SW sd) g h2 → vx_K h2 672 0 = vx_K g 672 0 := fun F => vx_fr_K F (fun q => by
      have t := vu_SW_ge sd2 q
      clear q
      omega)
    have nu : ∀ {g h2 : ve_H}, vx_fq (fun a k => vi_Wf pi a k ∨ a = 672) h g → vx_fr (vu_SW sd) g h2 → ve_n h2 ≤ ve_n h + 1 ∧ ve_u h2 ≤ ve_u h + 6 := fun f F => ⟨by rw [F.1.1]; exact f.1.1, by rw [F.1.2]; exact f.1.2⟩
    have same : ∀ row, (∀ j, j < S.2.2.2.2.1 → ¬ vr_eq 5 (S.2.2.2.2.2 j) row) ↔ ∀ j, j < S'.2.2.2.2.1 → ¬ vr_eq 5 (S'.2.2.2.2.2 j) row := fun row => by
      constructor
      · intro t j hj q
        obtain ⟨i, i1, i2⟩ := (Es row).mpr ⟨j, hj, q⟩
        exact t i i1 i2
      · intro t j hj q
        obtain ⟨i, i1, i2⟩ := (Es row).mp ⟨j, hj, q⟩
        exact t i i1 i2
    refine vg_210 (d := d + 7) hT.1 (vx_CX_mono (vc_3 (d := d) (vx_TLC hT) T.1 p1 C p4 p5 h01 rk') ?_ ?_)
    · rintro r h1 hr ⟨k24, f, eR, k11, k12, cc⟩ _
      have wrow := (vu_fc_w ok ok2 ok3 eR).2
      have BODY : ∀ (v : Int) (g : ve_H), (v = 0 ∧ r = 0) ∨ (v = 1 ∧ r = 1) → g = vx_sK h1 672 0 v → vx_TL L xs g → vx_CI (d + 8) 63 [.ref 625, .int (vx_i x)] g (fun b h2 => vx_TL L xs h2 → vx_J h2 625 0 = 0 ∧ ((0 : Int) = 0 → (b = 0 → vx_K h2 672 0 = 0) ∧ (b ≠ 0 → vx_K h2 672 0 = 1)) ∧ vi_J h h2) := by
        intro v g hv eg Tg
        have Fg : vx_fr (fun a _ => a = 672) h1 g := vx_fr_sK vx_fr_refl eg rfl
        have kg : vx_K g 672 0 = v := by rw [eg, vx_K_eq (show vx_rL v by omega)]
        have g24 : vx_J g 2 4 = 0 := (vx_fr_J Fg (by omega)).trans k24
        have g11 : vx_J g 1 11 = f.1.1 := (vx_fr_J Fg (by omega)).trans k11
        have g12 : vx_J g 1 12 = f.1.2 := (vx_fr_J Fg (by omega)).trans k12
        have g8 : vx_J g 1 8 = vx_J h1 1 8 := vx_fr_J Fg (by omega)
        rcases cc with ⟨F1, er, cs⟩ | ⟨F1, er, e8, cs⟩
        · have v0 : v = 0 := by
            rcases hv with t | t
            · exact t.1
            · exact absurd (t.2.symm.trans er) (by decide)
          have f1 := up (vx_fq_fr F1) Fg
          refine vx_CI_mono (REF g Tg f1) ?_
          rintro b h2 _ ⟨F2, b2, rp, rO⟩ T2
          rw [eR] at rO
          obtain ⟨rf, f0, c2⟩ := rO
          rcases c2 with ⟨c3, eb, N, b31, b32⟩ | ⟨_, c3⟩
          · have j0 : vx_J h2 625 0 = 0 := by
              rcases c3 with ⟨_, _, t⟩ | ⟨no, ⟨_, t⟩ | ⟨x1, _⟩⟩
              · exact t
              · exact t
              · exfalso
                rcases cs with ⟨⟨j, j1, j2⟩, _⟩ | ⟨_, x0⟩
                · exact (same _).mpr no j j1 j2
                · omega
            refine ⟨j0, fun _ => ⟨fun _ => by rw [ek F2, kg]; exact v0, fun t => absurd eb t⟩, vj_2_fin P r4 pp pg M A B W s f1 g24 g11 g12 (vi_F_f opi (fP (vx_fq_fr F1)) Fg ⟨⟨by have := (vx_po opi).2.2.2.2.2.2; omega, by have := (vx_po opi).2.2.2.2.2.2; omega⟩, fun a k h1 h2 => by have := (vx_po opi).2.2.2.2.2.2; omega⟩) F2 b2 rf rp N E0 p5 wA wA' (Or.inr ⟨g8.trans (j8r (vx_fq_fr F1)), b31, b32, rfl, rfl⟩), nu f1 F2⟩
          · exfalso
            rcases c3 with ⟨j, j1, j2, x0, _⟩ | ⟨no, x1, _⟩
            · rcases cs with ⟨_, x1⟩ | ⟨no, _⟩
              · omega
              · exact (same _).mp no j j1 j2
            · rcases cs with ⟨⟨j, j1, j2⟩, _⟩ | ⟨_, x0⟩
              · exact (same _).mpr no j j1 j2
              · omega
        · have v1 : v = 1 := by
            rcases hv with t | t
            · exact absurd (t.2.symm.trans er) (by decide)
            · exact t.1
          have f1 : vx_fq (fun a k => vi_Wf pi a k ∨ a = 672) h g := vx_fq_fr (vx_fr_trans (vx_fr_mono F1 (fun a k q => Or.inl q)) (vx_fr_mono Fg (fun a k q => Or.inr q)))
          have ppo := (vx_po opi).2.2.2.2.2.2
          refine vx_CI_mono (REF g Tg f1) ?_
          rintro b h2 _ ⟨F2, b2, rp, rO⟩ T2
          rw [eR] at rO
          obtain ⟨rf, f0, c2⟩ := rO
          rcases c2 with ⟨c3, _⟩ | ⟨⟨eb, j0, b31, b32⟩, c3⟩
          · exfalso
            rcases cs with ⟨j, j1, j2, x0, _⟩ | ⟨no, x1, l, _⟩
            · rcases c3 with ⟨_, x1, _⟩ | ⟨no, _⟩
              · omega
              · exact (same _).mpr no j j1 j2
            · rcases c3 with ⟨⟨j, j1, j2⟩, _⟩ | ⟨_, ⟨x0, _⟩ | ⟨_, l2, _⟩⟩
              · exact (same _).mp no j j1 j2
              · omega
              · omega
          · refine ⟨j0, fun _ => ⟨fun t => absurd (eb.symm.trans t) (by decide), fun _ => by rw [ek F2, kg]; exact v1⟩, ?_, nu f1 F2⟩
            rcases cs with ⟨j, j1, j2, x0, fP1⟩ | ⟨no, x1, l, fP1⟩
            · rcases c3 with ⟨i, i1, i2, _, N⟩ | ⟨no, _⟩
              · refine vj_2_fin P r4 pp pg M A B W s f1 g24 g11 g12 (vi_F_f opi fP1 Fg ⟨⟨by omega, by omega⟩, fun a k h1 h2 => by omega⟩) F2 b2 rf rp N ⟨p9.1, p9.2.1, p9.2.2.1, ?_, fun fct => ?_⟩ (by omega) (fun k hk => ?_) (fun k hk => ?_) (Or.inl ⟨g8.trans e8, b31⟩)
                · show S'.2.2.2.2.1 - 1 = S.2.2.2.2.1 - 1
                  rw [cnt']
                · refine (vr_rm_set dj j1).trans (Iff.trans ?_ (vu_sh_set p8.2.2.2.2.2.2.2 i1).symm)
                  refine and_congr (Es fct) (not_congr ?_)
                  exact ⟨fun t => vr_eq_trans i2 (vr_eq_trans (vr_eq_symm j2) t), fun t => vr_eq_trans j2 (vr_eq_trans (vr_eq_symm i2) t)⟩
                · show vu_wA S.1 (if k = j then S.2.2.2.2.2 (S.2.2.2.2.1 - 1) else S.2.2.2.2.2 k)
                  by_cases q : k = j
                  · rw [if_pos q]; exact wA _ (by omega)
                  · rw [if_neg q]; exact wA _ (by omega)
                · show vu_wA S'.1 (if k < i then S'.2.2.2.2.2 k else S'.2.2.2.2.2 (k + 1))
                  by_cases q : k < i
                  · rw [if_pos q]; exact wA' _ (by omega)
                  · rw [if_neg q]; exact wA' _ (by omega)
              · exact absurd j2 ((same _).mpr no j j1)
            · rcases c3 with ⟨i, i1, i2, _, _⟩ | ⟨_, _, l2, N⟩
              · exact absurd i2 ((same _).mp no i i1)
              · refine vj_2_fin P r4 pp pg M A B W s f1 g24 g11 g12 (vi_F_f opi fP1 Fg ⟨⟨by omega, by omega⟩, fun a k h1 h2 => by omega⟩) F2 b2 rf rp N ⟨p9.1, p9.2.1, p9.2.2.1, ?_, fun fct => ?_⟩ (by omega) (fun k hk => ?_) (fun k hk => ?_) (Or.inl ⟨g8.trans e8, b31⟩)
                · show S'.2.2.2.2.1 + 1 = S.2.2.2.2.1 + 1
                  rw [cnt']
                · exact vr_ad_set.trans (Iff.trans (or_congr (Es fct) Iff.rfl) vr_ad_set.symm)
                · by_cases q : k = S.2.2.2.2.1
                  · rw [q, vr_ad_eq]; exact wrow
                  · rw [vr_ad_lt (show k < S.2.2.2.2.1 by omega)]; exact wA _ (by omega)
                · by_cases q : k = S'.2.2.2.2.1
                  · rw [q, vr_ad_eq, p9.1]; exact wrow
                  · rw [vr_ad_lt (show k < S'.2.2.2.2.1 by omega)]; exact wA' _ (by omega)
      have r01 : r = 0 ∨ r = 1 := by
        rcases cc with ⟨_, t, _⟩ | ⟨_, t, _⟩
        · exact Or.inl t
        · exact Or.inr t
      exact ⟨fun q h3 e3 _ => BODY 0 h3 (Or.inl ⟨rfl, q⟩) e3, fun q h4 e4 _ => BODY 1 h4 (Or.inr ⟨rfl, by omega⟩) e4⟩
    · rintro kx h1 ⟨F1, k24, cc⟩ _
      have f1 := up0 F1
      rcases cc with ⟨ek1, F, eR, k11, k12⟩ | ⟨ek1, f, eR, k11, k12, x1, l, no⟩
      · refine Or.inl ⟨ek1, fun T1 => vx_CI_mono (REF h1 T1 f1) ?_⟩
        rintro b h2 _ ⟨F2, b2, rp, rO⟩ T2
        rw [eR] at rO
        obtain ⟨⟨_, j0, F0, rf⟩, N, b31, b32⟩ := rO
        exact ⟨j0, fun t => absurd t (by decide), vj_2_fin P r4 pp pg M A B W s f1 k24 k11 k12 (fP F1) F2 b2 rf rp N E0 p5 wA wA' (Or.inr ⟨j8r F1, b31, b32, rfl, rfl⟩), nu f1 F2⟩
      · refine Or.inr ⟨ek1, fun T1 => vx_CI_mono (REF h1 T1 f1) ?_⟩
        rintro b h2 _ ⟨F2, b2, rp, rO⟩ T2
        rw [eR] at rO
        obtain ⟨rf, f0, c2⟩ := rO
        rcases c2 with ⟨c3, eb, N, b31, b32⟩ | ⟨_, c3⟩
        · have j0 : vx_J h2 625 0 = 2 := by
            rcases c3 with ⟨⟨j, j1, j2⟩, _⟩ | ⟨_, ⟨x0, _⟩ | ⟨_, _, t⟩⟩
            · exact absurd j2 ((same _).mp no j j1)
            · omega
            · exact t
          exact ⟨j0, fun t => absurd t (by decide), vj_2_fin P r4 pp pg M A B W s f1 k24 k11 k12 (fP F1) F2 b2 rf rp N E0 p5 wA wA' (Or.inr ⟨j8r F1, b31, b32, rfl, rfl⟩), nu f1 F2⟩
        · exfalso
          rcases c3 with ⟨j, j1, j2, _⟩ | ⟨_, _, l2, _⟩
          · exact (same _).mp no j j1 j2
          · omega
  · refine vg_210 (d := d + 7) hT.1 (vx_CX_mono (vc_3n (d := d + 6) (vx_TLC hT) hx ⟨by omega, by omega⟩ rk') (fun r h1 _ q => absurd q (fun t => t)) ?_)
    rintro kx h1 ⟨ek1, F1, k24, k11, k12⟩ _
    have f1 := up0 F1
    refine Or.inl ⟨ek1, fun T1 => vx_CI_mono (vc_63n (d := d + 7) (vx_TLT T1) hx (by omega)) ?_⟩
    rintro b h2 _ ⟨F2, _, j0, b2, rf⟩ T2
    obtain ⟨x1, x2, x3, x4⟩ := J5 f1
    have F2' : vx_fr (vu_SW sd) h1 h2 := vx_fr_mono F2 (fun a k q => Or.inl (by omega))
    have rp := vy_rp_fr x3 F2 ⟨by omega, fun k _ _ => ⟨by omega, by omega⟩⟩
    have N := vu_rN_fr x4 F2 (fun k => ⟨by omega, by omega, by omega⟩)
    exact ⟨j0, fun t => absurd t (by decide), vj_2_fin (F := (0, 0)) P r4 pp pg M A B W s f1 k24 k11 k12 (fP F1) F2' b2 rf rp N E0 p5 wA wA' (Or.inr ⟨j8r F1, vx_fr_J F2 (by omega), vx_fr_J F2 (by omega), rfl, rfl⟩), by rw [F2.1.1]; exact f1.1.1, by rw [F2.1.2]; exact f1.1.2⟩
end
