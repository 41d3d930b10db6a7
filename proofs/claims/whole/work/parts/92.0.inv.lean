/-! What holds between two calls -/
/-- a frame that leaves the reference's program alone -/
def vi_nR (Sx : Nat → Nat → Prop) (sd : Nat) : Prop := ¬ Sx 635 sd ∧ (∀ k, 16 * sd ≤ k → k < 16 * sd + 16 → ¬ Sx 634 k) ∧ (∀ k, 30 * sd ≤ k → k < 30 * sd + 30 → ¬ Sx 636 k ∧ ¬ Sx 639 k ∧ ¬ Sx 640 k ∧ ¬ Sx 641 k ∧ ¬ Sx 642 k ∧ ¬ Sx 662 k) ∧ (∀ k, 120 * sd ≤ k → k < 120 * sd + 120 → ¬ Sx 637 k ∧ ¬ Sx 638 k) ∧ (∀ k, 180 * sd ≤ k → k < 180 * sd + 180 → ¬ Sx 660 k ∧ ¬ Sx 643 k ∧ ¬ Sx 661 k ∧ ¬ Sx 644 k) ∧ (∀ k, 720 * sd ≤ k → k < 720 * sd + 720 → ¬ Sx 645 k ∧ ¬ Sx 646 k)
/-- and its predicates and facts -/
def vi_nF (Sx : Nat → Nat → Prop) (sd : Nat) : Prop := (¬ Sx 631 sd ∧ ¬ Sx 647 sd) ∧ (∀ k, 16 * sd ≤ k → k < 16 * sd + 16 → ¬ Sx 632 k ∧ ¬ Sx 633 k) ∧ (∀ k, 400 * sd ≤ k → k < 400 * sd + 400 → ¬ Sx 648 k) ∧ (∀ k, 1600 * sd ≤ k → k < 1600 * sd + 1600 → ¬ Sx 649 k)
/-- a frame that leaves the class's program alone -/
def vi_nC (Sx : Nat → Nat → Prop) (pi : Nat) : Prop := ¬ Sx 1 3 ∧ (¬ Sx pi 6 ∧ ¬ Sx pi 7 ∧ ¬ Sx pi 8) ∧ (∀ k, ¬ Sx (pi + 1) k ∧ ¬ Sx (pi + 2) k ∧ ¬ Sx (pi + 3) k) ∧ ∀ a k, pi + 10 ≤ a → a < pi + 289 → ¬ Sx a k
def vi_nT (Sx : Nat → Nat → Prop) (pi : Nat) : Prop := (¬ Sx (pi + 6) 0 ∧ ¬ Sx (pi + 6) 4) ∧ ∀ a k, pi + 7 ≤ a → a ≤ pi + 9 → ¬ Sx a k
/-- the class's program without its facts -/
def vi_C (h : ve_H) (pi : Nat) (S : vu_S) (st : Nat → Nat) : Prop := ve_R h 1 3 = some pi ∧ vu_cg h pi S.1 S.2.2.1 S.2.2.2.1 ∧ vs_cs h pi st ∧ vx_J h pi 8 = (vs_ns st S.1.1 : Nat)
section
variable {Sx : Nat → Nat → Prop} {h g : ve_H} {pi sd aa ab n ac cnt : Nat} {S S' : vu_S} {Pd : vy_V} {F : vy_F} {RR : Nat → vu_R} {st : Nat → Nat} {ar rr : Nat → Nat → Int} {o : Nat → Nat} {cm : Nat → Int} {c : Nat → Int}
theorem vn_rules_fr (n30 : n ≤ 30) (C : ∀ r, r < n → vu_rr h (30 * sd + r) Pd F (RR r)) (f : vx_fr Sx h g) (hs : vi_nR Sx sd) : ∀ r, r < n → vu_rr g (30 * sd + r) Pd F (RR r) := by
  intro r hr
  obtain ⟨_, _, s3, s4, s5, s6⟩ := hs
  obtain ⟨a1, a2, a3, a4, a5, a6⟩ := s3 (30 * sd + r) (by omega) (by omega)
  refine vu_rr_fr (C r hr) f (fun a ha => ?_) (fun k h1 h2 => s4 k (by omega) (by omega)) (fun l h1 h2 => s5 l (by omega) (by omega)) (fun k h1 h2 => s6 k (by omega) (by omega))
  rcases ha with rfl | rfl | rfl | rfl | rfl | rfl
  · exact a1
  · exact a2
  · exact a3
  · exact a4
  · exact a5
  · exact a6
theorem vn_pc_f (C : vn_pc h sd S st) (n30 : S.2.2.1 ≤ 30) (f : vx_fr Sx h g) (e11 : vx_J g 625 11 = vx_J h 625 11) (hs : vi_nR Sx sd) (hf : vi_nF Sx sd) : vn_pc g sd S st := by
  obtain ⟨c1, c2, c3, c4, c5⟩ := C
  obtain ⟨f1, f2, f3, f4⟩ := hf
  refine ⟨⟨vy_rp_fr c1.1 f ⟨f1.1, fun k h1 h2 => f2 k h1 h2⟩, e11.trans c1.2⟩, (vx_fr_J f hs.1).trans c2, vn_rules_fr n30 c3 f hs, fun p hp => (vx_fr_J f (hs.2.1 _ (by omega) (by omega))).trans (c4 p hp), (vx_fr_J f f1.2).trans c5.1, c5.2.1, fun j hj => ?_, c5.2.2.2⟩
  have j200 := c5.2.1
  exact vu_rf_fr (c5.2.2.1 j hj) f ⟨f3 _ (by omega) (by omega), fun k h1 h2 => f4 k (by omega) (by omega)⟩
theorem vi_C_f (C : vi_C h pi S st) (f : vx_fr Sx h g) (hs : vi_nC Sx pi) : vi_C g pi S st := by
  obtain ⟨c1, c2, c3, c4⟩ := C
  obtain ⟨s1, s2, s3, s4⟩ := hs
  exact ⟨(vx_fr_R f s1).trans c1, vu_cg_fr c2 f ⟨⟨s2.1, s2.2.1⟩, fun k => ⟨(s3 k).1, (s3 k).2.1⟩, s4⟩, fun p hp => (vx_fr_J f (s3 p).2.2).trans (c3 p hp), (vx_fr_J f s2.2.2).trans c4⟩
theorem vi_F_f (opi : vx_o 1 625 5 pi) (P : vr_P (pi + 6) 5 cnt rr h) (f : vx_fr Sx h g) (hs : vi_nT Sx pi) : vr_P (pi + 6) 5 cnt rr g := by
  have fK := vu_fK opi
  have k1 := fK.2
  refine vr_P_fr P fK.1 f (fun b k q t => ?_)
  by_cases q1 : b = pi + 6 ∧ k = 0
  · rw [q1.1, q1.2] at t; exact hs.1.1 t
  · by_cases q2 : b = pi + 6 ∧ k = 4
    · rw [q2.1, q2.2] at t; exact hs.1.2 t
    · exact hs.2 b k (by omega) (by omega) t
theorem vi_P_f (P : vi_P h pi sd S S' st) (n30 : S'.2.2.1 ≤ 30) (f : vx_fr Sx h g) (e11 : vx_J g 625 11 = vx_J h 625 11) (hc : vi_nC Sx pi) (ht : vi_nT Sx pi) (hs : vi_nR Sx sd) (hf : vi_nF Sx sd) : vi_P g pi sd S S' st := by
  obtain ⟨p1, p2, p3, p4, p5, p6, p7, p8, p9⟩ := P
  obtain ⟨c1, c2, c3, c4⟩ := vi_C_f ⟨p1, p2, p3, p6⟩ f hc
  exact ⟨c1, c2, c3, vi_F_f p2.1.1 p4 f ht, p5, c4, p7, vn_pc_f p8 n30 f e11 hs hf, p9⟩
theorem vi_P_q (P : vi_P h pi sd S S' st) (n30 : S'.2.2.1 ≤ 30) (f : vx_fq Sx h g) (e11 : vx_J g 625 11 = vx_J h 625 11) (hc : vi_nC Sx pi) (ht : vi_nT Sx pi) (hs : vi_nR Sx sd) (hf : vi_nF Sx sd) : vi_P g pi sd S S' st := by
  have P' : vi_P (vx_hn h g) pi sd S S' st := P
  exact vi_P_f P' n30 (vx_fq_h f) e11 hc ht hs hf
theorem vi_A_q (A : vi_A h aa n ac ar o) (f : vx_fq Sx h g) (hs : (¬ Sx 1 5 ∧ ¬ Sx 1 7) ∧ ∀ a k, aa ≤ a → a ≤ aa + 3 → ¬ Sx a k) (e38 : vx_J g 625 38 = vx_J h 625 38) (e39 : vx_J g 625 39 = vx_J h 625 39) (e653 : ∀ k, vx_K g 653 k = vx_K h 653 k) : vi_A g aa n ac ar o := by
  have A' : vi_A (vx_hn h g) aa n ac ar o := A
  have F := vx_fq_h f
  obtain ⟨a1, a2, a3, a4, a5, a6, a7, a8, a9, a10⟩ := A'
  have ta := vm_ta a2
  have t2 := ta.2.2
  refine ⟨(vx_fr_R F hs.1.1).trans a1, a2, vr_P_fr a3 ta.1 F (fun b k q t => hs.2 b k (by omega) (by omega) t), a4, (vx_fr_J F hs.1.2).trans a5, a6, fun j hj => ⟨(a7 j hj).1, (vx_fr_J F (hs.2 _ _ (by omega) (by omega))).trans (a7 j hj).2⟩, e38.trans a8, e39.trans a9, fun j hj v hv => ?_⟩
  rw [e653]
  exact a10 j hj v hv
theorem vn_T_f (T : vn_T h Pd cnt rr cm) (f : vx_fr Sx h g) (e32 : vx_J g 625 32 = vx_J h 625 32) (hs : ∀ a k, 650 ≤ a → a ≤ 652 → ¬ Sx a k) : vn_T g Pd cnt rr cm := by
  obtain ⟨t1, t2, t3⟩ := T
  refine ⟨e32.trans t1, fun i hi => ?_, t3⟩
  obtain ⟨⟨b1, b2⟩, b3, b4⟩ := t2 i hi
  refine ⟨⟨(vx_fr_J f (hs _ _ (by omega) (by omega))).trans b1, fun k hk => ?_⟩, b3, (vx_fr_J f (hs _ _ (by omega) (by omega))).trans b4⟩
  rw [vx_fr_K f (hs _ _ (by omega) (by omega))]
  exact b2 k hk
theorem vm_ch_hn : ∀ (l : List Nat) (x : Int), vm_ch h l x → vm_ch (vx_hn h g) l x
  | [], _, q => q
  | _ :: l, _, q => ⟨q.1, vm_ch_hn l _ q.2⟩
theorem vm_M_hn (M : vm_M h cnt rr cm) : vm_M (vx_hn h g) cnt rr cm := ⟨M.1, M.2.1, fun p hp => ⟨vm_ch_hn _ _ (M.2.2 p hp).1, (M.2.2 p hp).2⟩⟩
theorem vi_M_hn (M : vi_M h S st) : vi_M (vx_hn h g) S st := by
  obtain ⟨cnt, rr, cm, o, cnt', rr', cm', m1, m2, m3, m4, m5, m6, m7, m8⟩ := M
  refine ⟨cnt, rr, cm, o, cnt', rr', cm', ?_, m2, m3, m4, m5, m6, m7, m8⟩
  rcases m1 with t | t
  · exact Or.inl (vm_M_hn t)
  · exact Or.inr t
theorem vi_M_q (M : vi_M h S st) (f : vx_fq Sx h g) (e32 : vx_J g 625 32 = vx_J h 625 32) (h1 : ∀ a k, Sx a k → a < 23 ∨ 30 < a) (h2 : ∀ a k, 650 ≤ a → a ≤ 652 → ¬ Sx a k) : vi_M g S st := by
  have M' : vi_M (vx_hn h g) S st := vi_M_hn M
  have F := vx_fq_h f
  obtain ⟨cnt, rr, cm, o, cnt', rr', cm', m1, m2, m3, m4, m5, m6, m7, m8⟩ := M'
  exact ⟨cnt, rr, cm, o, cnt', rr', cm', vi_N_fr m1 F h1, m2, m3, m4, fun j hj => (vx_fr_J F (fun q => by have := h1 _ _ q; omega)).trans (m5 j hj), vn_T_f m6 F e32 h2, m7, m8⟩
end
/-- widths of the tables -/
def vi_W (h : ve_H) : Prop := vx_J h 23 0 = (5 : Nat) ∧ vx_J h 34 0 = (5 : Nat) ∧ vx_J h 617 0 = (8 : Nat) ∧ vx_J h 621 0 = (8 : Nat) ∧ vx_J h 45 0 = (5 : Nat) ∧ vx_J h 334 0 = (5 : Nat)
/-- what is known of a program alone -/
def vi_pg (S S' : vu_S) (st : Nat → Nat) : Prop := vm_pg S st ∧ vm_pg S' st ∧ vu_w3 S' ∧ vu_nz S.1 ∧ vs_ns st S.1.1 ≤ 17
def vi_G (h : ve_H) (pi pj sd : Nat) (S S' : vu_S) (st : Nat → Nat) : Prop := vi_P h pi sd S S' st ∧ ve_R h 1 4 = some pj ∧ ((pi = 39 ∧ pj = 328) ∨ (pi = 328 ∧ pj = 39)) ∧ vi_pg S S' st ∧ (vx_J h 1 8 = 1 → vi_M h S st)
def vi_B (h : ve_H) (aa ab : Nat) : Prop := ve_R h 1 6 = some ab ∧ ((aa = 617 ∧ ab = 621) ∨ (aa = 621 ∧ ab = 617))
def vi_I (h : ve_H) : Prop := (∃ pi pj sd S S' st, vi_G h pi pj sd S S' st) ∧ (∃ aa ab n ac ar o, vi_A h aa n ac ar o ∧ vi_B h aa ab) ∧ (∃ n c, vt_tx h n c ∧ vt_tr h n c) ∧ vi_W h ∧ vi_S h
/-- what a call that only tells may write -/
abbrev vi_L (a k : Nat) : Prop := a = 672 ∨ (a = 625 ∧ k = 0)
section
variable {h g : ve_H} {Sx : Nat → Nat → Prop}
theorem vi_S_q (s : vi_S h) (f : vx_fq Sx h g) (h1 : ∀ k, 8 ≤ k → k ≤ 12 → ¬ Sx 1 k) (h2 : ∀ k, (k = 31 ∨ k = 36 ∨ k = 37 ∨ k = 3 ∨ k = 4) → ¬ Sx 625 k) : vi_S g := by
  obtain ⟨s1, s2, s3, s4, s5, s6, s7, s8⟩ := s
  have e : ∀ k, 8 ≤ k → k ≤ 12 → vx_J g 1 k = vx_J h 1 k := fun k a b => vx_fq_J f (h1 k a b)
  have e2 : ∀ k, (k = 31 ∨ k = 36 ∨ k = 37 ∨ k = 3 ∨ k = 4) → vx_J g 625 k = vx_J h 625 k := fun k a => vx_fq_J f (h2 k a)
  unfold vi_S
  rw [e 8 (by decide) (by decide), e 9 (by decide) (by decide), e 10 (by decide) (by decide), e 11 (by decide) (by decide), e 12 (by decide) (by decide), e2 31 (by decide), e2 36 (by decide), e2 37 (by decide), e2 3 (by decide), e2 4 (by decide)]
  exact ⟨s1, s2, s3, s4, s5, s6, s7, s8⟩
theorem vi_W_q (w : vi_W h) (f : vx_fq Sx h g) (hs : ¬ Sx 23 0 ∧ ¬ Sx 34 0 ∧ ¬ Sx 617 0 ∧ ¬ Sx 621 0 ∧ ¬ Sx 45 0 ∧ ¬ Sx 334 0) : vi_W g := by
  obtain ⟨w1, w2, w3, w4, w5, w6⟩ := w
  obtain ⟨s1, s2, s3, s4, s5, s6⟩ := hs
  exact ⟨(vx_fq_J f s1).trans w1, (vx_fq_J f s2).trans w2, (vx_fq_J f s3).trans w3, (vx_fq_J f s4).trans w4, (vx_fq_J f s5).trans w5, (vx_fq_J f s6).trans w6⟩
theorem vi_T_q {n : Nat} {c : Nat → Int} (T : vt_tx h n c ∧ vt_tr h n c) (f : vx_fq Sx h g) (h1 : ¬ Sx 2 4 ∧ ¬ Sx 625 2) (h2 : ∀ k, ¬ Sx 3 k ∧ ¬ Sx 626 k) : vt_tx g n c ∧ vt_tr g n c := by
  obtain ⟨⟨a1, a2, a3⟩, b1, b2, b3⟩ := T
  exact ⟨⟨(vx_fq_J f h1.1).trans a1, a2, fun i hi => ⟨(vx_fq_J f (h2 i).1).trans (a3 i hi).1, (a3 i hi).2⟩⟩, (vx_fq_J f h1.2).trans b1, b2, fun i hi => ⟨(vx_fq_J f (h2 i).2).trans (b3 i hi).1, (b3 i hi).2⟩⟩
theorem vi_keep (I : vi_I h) (f : vx_fq vi_L h g) : vi_I g := by
  obtain ⟨⟨pi, pj, sd, S, S', st, P, r4, pp, pg, M⟩, ⟨aa, ab, n, ac, ar, o, A, B⟩, ⟨tn, c, T⟩, W, s⟩ := I
  have a2 := A.2.1
  have n30 := pg.2.1.2.2.2.2
  have e8 : vx_J g 1 8 = vx_J h 1 8 := vx_fq_J f (by omega)
  refine ⟨⟨pi, pj, sd, S, S', st, ?_, (vx_fq_R f (by omega)).trans r4, pp, pg, fun q => vi_M_q (M (e8.symm.trans q)) f (vx_fq_J f (by omega)) (fun a k q => by omega) (fun a k h1 h2 => by omega)⟩, ⟨aa, ab, n, ac, ar, o, vi_A_q A f ⟨⟨by omega, by omega⟩, fun a k h1 h2 => by omega⟩ (vx_fq_J f (by omega)) (vx_fq_J f (by omega)) (fun k => vx_fq_K f (by omega)), (vx_fq_R f (by omega)).trans B.1, B.2⟩, ⟨tn, c, vi_T_q T f ⟨by omega, by omega⟩ (fun k => ⟨by omega, by omega⟩)⟩, vi_W_q W f ⟨by omega, by omega, by omega, by omega, by omega, by omega⟩, vi_S_q s f (fun k h1 h2 => by omega) (fun k hk => by omega)⟩
  exact vi_P_q P n30 f (vx_fq_J f (by omega)) ⟨by omega, ⟨by omega, by omega, by omega⟩, fun k => ⟨by omega, by omega, by omega⟩, fun a k h1 h2 => by omega⟩ ⟨⟨by omega, by omega⟩, fun a k h1 h2 => by omega⟩ ⟨by omega, fun k h1 h2 => by omega, fun k h1 h2 => ⟨by omega, by omega, by omega, by omega, by omega, by omega⟩, fun k h1 h2 => ⟨by omega, by omega⟩, fun k h1 h2 => ⟨by omega, by omega, by omega, by omega⟩, fun k h1 h2 => ⟨by omega, by omega⟩⟩ ⟨⟨by omega, by omega⟩, fun k h1 h2 => ⟨by omega, by omega⟩, fun k h1 h2 => by omega, fun k h1 h2 => by omega⟩
end
/-- a call: what holds behind it -/
def vi_J (h h2 : ve_H) : Prop := vi_I h2 ∧ ve_n h2 ≤ ve_n h + 1 ∧ ve_u h2 ≤ ve_u h + 6
/-! type, and the calls that only tell -/
section
variable {d L : Nat} {xs : Nat → Int32} {h : ve_H} {x y z w : Int}
theorem vi_light {h2 : ve_H} (I : vi_I h) (f : vx_fq vi_L h h2) : vi_J h h2 := ⟨vi_keep I f, f.1⟩
theorem vx_rk_e {h1 : ve_H} (rk : ve_rk h 6 = true) (e1 : ve_n h1 = ve_n h) (e2 : ve_u h1 = ve_u h) : ve_rk h1 6 = true := by
  unfold ve_rk at rk ⊢
  rw [e1, e2]; exact rk
theorem vj_3 (hT : vx_TL L xs h) (I : vi_I h) (hx : vx_rI x) : vl_I d L xs (vi_J h) 4 64 [.int (vx_i x)] h := vp_3 hT I.2.2.2.2 hx (fun h2 _ f => vi_light I f)
theorem vj_6 (hT : vx_TL L xs h) (I : vi_I h) (rk : ve_rk h 6 = true) (hx : vx_rI x) (hy : vx_rI y) : vl_L (d + 4) L xs (vi_J h) 213 95 [.int (vx_i x), .int (vx_i y)] h := by
  obtain ⟨aa, ab, n, ac, ar, o, A, B⟩ := I.2.1
  exact vp_6 hT A rk hx hy (fun h2 _ f => vi_light I f)
theorem vj_7 (hT : vx_TL L xs h) (I : vi_I h) (hx : vx_rI x) : vl_I (d + 1) L xs (vi_J h) 8 97 [.int (vx_i x)] h := by
  obtain ⟨pi, pj, sd, S, S', st, P, r4, pp, pg, M⟩ := I.1
  obtain ⟨aa, ab, n, ac, ar, o, A, B⟩ := I.2.1
  exact vp_7 hT I.2.2.2.2 P A M hx (fun h2 _ f => vi_light I f)
theorem vj_8 (hT : vx_TL L xs h) (I : vi_I h) (hx : vx_rI x) (hy : vx_rI y) : vl_I (d + 2) L xs (vi_J h) 9 99 [.int (vx_i x), .int (vx_i y)] h := by
  obtain ⟨pi, pj, sd, S, S', st, P, r4, pp, pg, M⟩ := I.1
  exact vp_8 hT I.2.2.2.2 P pg.2.2.2.1 M hx hy (fun h2 _ f => vi_light I f)
theorem vj_9 (hT : vx_TL L xs h) (I : vi_I h) (rk : ve_rk h 6 = true) (hx : vx_rI x) (hy : vx_rI y) (hz : vx_rI z) : vl_L (d + 4) L xs (vi_J h) 214 102 [.int (vx_i x), .int (vx_i y), .int (vx_i z)] h := by
  obtain ⟨pi, pj, sd, S, S', st, P, r4, pp, pg, M⟩ := I.1
  exact vp_9 hT I.2.2.2.2 P M rk hx hy hz (fun h2 _ f => vi_light I f)
theorem vj_10 (hT : vx_TL L xs h) (I : vi_I h) (rk : ve_rk h 6 = true) (hx : vx_rI x) (hy : vx_rI y) : vl_X (d + 4) L xs (vi_J h) 215 103 [.int (vx_i x), .int (vx_i y)] h := by
  obtain ⟨pi, pj, sd, S, S', st, P, r4, pp, pg, M⟩ := I.1
  exact vp_10 hT I.2.2.2.2 P M rk hx hy (fun h2 _ f => vi_light I f)
/-- solve -/
theorem vj_4 (hT : vx_TL L xs h) (I : vi_I h) (rk : ve_rk h 6 = true) : vl_X (d + 14) L xs (vi_J h) 211 91 [] h := by
  have I0 := I
  obtain ⟨⟨pi, pj, sd, S, S', st, P, r4, pp, pg, M⟩, ⟨aa, ab, n, ac, ar, o, A, B⟩, ⟨tn, c, T⟩, W, s⟩ := I
  refine vp_4 hT s P pg.1 pg.2.1 pg.2.2.1 pg.2.2.2.2 M W.2.1 W.1 (fun h1 e1 e2 => vx_rk_e rk e1 e2) (fun h2 T2 f s2 M2 w23 => ⟨?_, f.1⟩)
  have sd2 := P.2.2.2.2.2.2.2.1.1.1.1
  have a2 := A.2.1
  have n30 := pg.2.1.2.2.2.2
  have no : ∀ a k, a < 21 ∨ (39 ≤ a ∧ a < 625) ∨ (626 ≤ a ∧ a < 650) ∨ (655 ≤ a ∧ a ≤ 663) ∨ a = 653 ∨ (a = 625 ∧ (k = 11 ∨ k = 2 ∨ k = 38 ∨ k = 39)) → (a = 1 → k ≠ 8 ∧ k ≠ 9) → ¬ (vi_Wc a k ∨ vi_Wo a k) := by
    intro a k ha hk q
    rcases q with q | q
    · have t := vi_Wc_lt q
      clear q
      omega
    · have t := vi_Wo_ge q
      clear q
      omega
  have n1 : ∀ a k, (39 ≤ a ∧ a < 625) → ¬ (vi_Wc a k ∨ vi_Wo a k) := fun a k h => no a k (by omega) (by omega)
  have n2 : ∀ a k, (626 ≤ a ∧ a < 650) → ¬ (vi_Wc a k ∨ vi_Wo a k) := fun a k h => no a k (by omega) (by omega)
  have n3 : ∀ a k, (655 ≤ a ∧ a ≤ 663) → ¬ (vi_Wc a k ∨ vi_Wo a k) := fun a k h => no a k (by omega) (by omega)
  have w34 : ¬ (vi_Wc 34 0 ∨ vi_Wo 34 0) := by
    intro q
    rcases q with q | q
    · unfold vi_Wc at q
      omega
    · have t := vi_Wo_ge q
      clear q
      omega
  refine ⟨⟨pi, pj, sd, S, S', st, ?_, (vx_fq_R f (no 1 4 (by omega) (by omega))).trans r4, pp, pg, M2⟩, ⟨aa, ab, n, ac, ar, o, vi_A_q A f ⟨⟨no 1 5 (by omega) (by omega), no 1 7 (by omega) (by omega)⟩, fun a k h1 h2 => n1 a k (by omega)⟩ (vx_fq_J f (no _ _ (by omega) (by omega))) (vx_fq_J f (no _ _ (by omega) (by omega))) (fun k => vx_fq_K f (no _ _ (by omega) (by omega))), (vx_fq_R f (no 1 6 (by omega) (by omega))).trans B.1, B.2⟩, ⟨tn, c, vi_T_q T f ⟨no _ _ (by omega) (by omega), no _ _ (by omega) (by omega)⟩ (fun k => ⟨no _ _ (by omega) (by omega), n2 _ _ (by omega)⟩)⟩, ?_, s2⟩
  · exact vi_P_q P n30 f (vx_fq_J f (no _ _ (by omega) (by omega))) ⟨no _ _ (by omega) (by omega), ⟨n1 _ _ (by omega), n1 _ _ (by omega), n1 _ _ (by omega)⟩, fun k => ⟨n1 _ _ (by omega), n1 _ _ (by omega), n1 _ _ (by omega)⟩, fun a k h1 h2 => n1 _ _ (by omega)⟩ ⟨⟨n1 _ _ (by omega), n1 _ _ (by omega)⟩, fun a k h1 h2 => n1 _ _ (by omega)⟩ ⟨n2 _ _ (by omega), fun k h1 h2 => n2 _ _ (by omega), fun k h1 h2 => ⟨n2 _ _ (by omega), n2 _ _ (by omega), n2 _ _ (by omega), n2 _ _ (by omega), n2 _ _ (by omega), n3 _ _ (by omega)⟩, fun k h1 h2 => ⟨n2 _ _ (by omega), n2 _ _ (by omega)⟩, fun k h1 h2 => ⟨n3 _ _ (by omega), n2 _ _ (by omega), n3 _ _ (by omega), n2 _ _ (by omega)⟩, fun k h1 h2 => ⟨n2 _ _ (by omega), n2 _ _ (by omega)⟩⟩ ⟨⟨n2 _ _ (by omega), n2 _ _ (by omega)⟩, fun k h1 h2 => ⟨n2 _ _ (by omega), n2 _ _ (by omega)⟩, fun k h1 h2 => n2 _ _ (by omega), fun k h1 h2 => n2 _ _ (by omega)⟩
  · obtain ⟨w1, w2, w3, w4, w5, w6⟩ := W
    exact ⟨w23, (vx_fq_J f w34).trans w2, (vx_fq_J f (n1 _ _ (by omega))).trans w3, (vx_fq_J f (n1 _ _ (by omega))).trans w4, (vx_fq_J f (n1 _ _ (by omega))).trans w5, (vx_fq_J f (n1 _ _ (by omega))).trans w6⟩
/-- type -/
theorem vj_0 (hT : vx_TL L xs h) (I : vi_I h) (hw : vx_rL w) (hy : vx_rI y) : vl_I (d + 1) L xs (vi_J h) 1 21 [.long (vx_l w), .int (vx_i y)] h := by
  obtain ⟨⟨pi, pj, sd, S, S', st, P, r4, pp, pg, M⟩, ⟨aa, ab, n, ac, ar, o, A, B⟩, ⟨tn, c, T⟩, W, s⟩ := I
  have t600 := T.1.2.1
  refine vx_CI_mono (vc_1 (d := d) (len := (tn : Int)) hw hy (by omega) (vx_TLC hT) T.1.1) ?_
  intro r h1 _ p T1
  have F1 := p.1
  refine vx_CI_mono (vc_21 (d := d + 1) (len := (tn : Int)) hw hy (by omega) (vx_TLT T1) ((vx_fr_J F1 (by omega)).trans T.2.1)) ?_
  intro r2 h2 _ p2 T2
  refine ⟨vc_tP_eq p p2, ?_⟩
  have F2 := p2.1
  have f : vx_fq (fun a k => (a = 2 ∧ k = 4) ∨ (a = 3 ∧ tn ≤ k) ∨ (a = 625 ∧ (k = 0 ∨ k = 2)) ∨ (a = 626 ∧ tn ≤ k)) h h2 := vx_fq_fr (vx_fr_trans (vx_fr_mono F1 (fun a k q => by omega)) (vx_fr_mono F2 (fun a k q => by omega)))
  have sd2 := P.2.2.2.2.2.2.2.1.1.1.1
  have a2 := A.2.1
  have n30 := pg.2.1.2.2.2.2
  have e8 : vx_J h2 1 8 = vx_J h 1 8 := vx_fq_J f (by omega)
  refine ⟨⟨⟨pi, pj, sd, S, S', st, ?_, (vx_fq_R f (by omega)).trans r4, pp, pg, fun q => vi_M_q (M (e8.symm.trans q)) f (vx_fq_J f (by omega)) (fun a k q => by omega) (fun a k h1 h2 => by omega)⟩, ⟨aa, ab, n, ac, ar, o, vi_A_q A f ⟨⟨by omega, by omega⟩, fun a k h1 h2 => by omega⟩ (vx_fq_J f (by omega)) (vx_fq_J f (by omega)) (fun k => vx_fq_K f (by omega)), (vx_fq_R f (by omega)).trans B.1, B.2⟩, ?_, vi_W_q W f ⟨by omega, by omega, by omega, by omega, by omega, by omega⟩, vi_S_q s f (fun k h1 h2 => by omega) (fun k hk => by omega)⟩, f.1⟩
  · exact vi_P_q P n30 f (vx_fq_J f (by omega)) ⟨by omega, ⟨by omega, by omega, by omega⟩, fun k => ⟨by omega, by omega, by omega⟩, fun a k h1 h2 => by omega⟩ ⟨⟨by omega, by omega⟩, fun a k h1 h2 => by omega⟩ ⟨by omega, fun k h1 h2 => by omega, fun k h1 h2 => ⟨by omega, by omega, by omega, by omega, by omega, by omega⟩, fun k h1 h2 => ⟨by omega, by omega⟩, fun k h1 h2 => ⟨by omega, by omega, by omega, by omega⟩, fun k h1 h2 => ⟨by omega, by omega⟩⟩ ⟨⟨by omega, by omega⟩, fun k h1 h2 => ⟨by omega, by omega⟩, fun k h1 h2 => by omega, fun k h1 h2 => by omega⟩
  · have old : ∀ i, i < tn → vx_J h2 3 i = c i ∧ vx_J h2 626 i = c i := fun i hi => ⟨(vx_fq_J f (by omega)).trans (T.1.2.2 i hi).1, (vx_fq_J f (by omega)).trans (T.2.2.2 i hi).1⟩
    have e3 : ∀ k, vx_J h2 3 k = vx_J h1 3 k := fun k => vx_fr_J F2 (by omega)
    rcases p.2 with ⟨_, ok, l1, q1⟩ | ⟨_, no, l1⟩
    · rcases p2.2 with ⟨_, _, l2, q2⟩ | ⟨_, no, _⟩
      · have y8 := ok.1
        obtain ⟨m, em⟩ : ∃ m : Nat, y = m := ⟨y.toNat, by omega⟩
        refine ⟨tn + m, fun i => if i < tn then c i else vx_by w (m - 1 - (i - tn)), ⟨?_, by omega, fun i hi => ?_⟩, ?_, by omega, fun i hi => ?_⟩
        · rw [vx_fr_J F2 (by omega), l1]; omega
        · by_cases q : i < tn
          · show vx_J h2 3 i = (if i < tn then c i else vx_by w (m - 1 - (i - tn))) ∧ 32 ≤ (if i < tn then c i else vx_by w (m - 1 - (i - tn))) ∧ (if i < tn then c i else vx_by w (m - 1 - (i - tn))) ≤ 126
            rw [if_pos q]
            exact ⟨(old i q).1, (T.1.2.2 i q).2⟩
          · show vx_J h2 3 i = (if i < tn then c i else vx_by w (m - 1 - (i - tn))) ∧ 32 ≤ (if i < tn then c i else vx_by w (m - 1 - (i - tn))) ∧ (if i < tn then c i else vx_by w (m - 1 - (i - tn))) ≤ 126
            rw [if_neg q]
            have t := q1 (i - tn) (by omega)
            rw [show (tn : Int).toNat + (i - tn) = i by omega, show (y - 1 - ((i - tn : Nat) : Int)).toNat = m - 1 - (i - tn) by omega] at t
            exact ⟨(e3 i).trans t, ok.2 _ (by omega)⟩
        · rw [l2]; omega
        · by_cases q : i < tn
          · show vx_J h2 626 i = (if i < tn then c i else vx_by w (m - 1 - (i - tn))) ∧ 32 ≤ (if i < tn then c i else vx_by w (m - 1 - (i - tn))) ∧ (if i < tn then c i else vx_by w (m - 1 - (i - tn))) ≤ 126
            rw [if_pos q]
            exact ⟨(old i q).2, (T.1.2.2 i q).2⟩
          · show vx_J h2 626 i = (if i < tn then c i else vx_by w (m - 1 - (i - tn))) ∧ 32 ≤ (if i < tn then c i else vx_by w (m - 1 - (i - tn))) ∧ (if i < tn then c i else vx_by w (m - 1 - (i - tn))) ≤ 126
            rw [if_neg q]
            have t := q2 (i - tn) (by omega)
            rw [show (tn : Int).toNat + (i - tn) = i by omega, show (y - 1 - ((i - tn : Nat) : Int)).toNat = m - 1 - (i - tn) by omega] at t
            exact ⟨t, ok.2 _ (by omega)⟩
      · exact absurd ok no
    · rcases p2.2 with ⟨_, ok, _⟩ | ⟨_, _, l2⟩
      · exact absurd ok no
      · exact ⟨tn, c, ⟨(vx_fr_J F2 (by omega)).trans l1, t600, fun i hi => ⟨(old i hi).1, (T.1.2.2 i hi).2⟩⟩, l2, t600, fun i hi => ⟨(old i hi).2, (T.1.2.2 i hi).2⟩⟩
end
