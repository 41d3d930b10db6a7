/-! Programs: the reference, all together -/
abbrev vu_SV (sd a k : Nat) : Prop := vu_SU sd a k ∨ (a = 625 ∧ (k = 11 ∨ k = 31 ∨ k = 32))
def vu_rO (s0 sd : Nat) (R : vy_F ⊕ vu_S) (h : ve_H) (r : Int) (h1 : ve_H) : Prop := match R with
  | .inl _ => vx_J h1 625 0 = 1 ∧ vx_J h1 625 11 = s0 ∧ vx_J h1 625 31 = vx_J h 625 31 ∧ vx_J h1 625 32 = vx_J h 625 32
  | .inr S => vx_J h1 625 0 = 0 ∧ r = S.2.2.1 ∧ vx_J h1 625 11 = sd ∧ vx_J h1 625 31 = 0 ∧ vx_J h1 625 32 = 0
section
variable {d i n m sd s0 : Nat} {h h1 g : ve_H} {c : Nat → Int} {ts : vy_T} {S : vu_S} {x : Int}
theorem vu_SV_k {a k : Nat} (q : vu_Sk sd a k) : vu_SV sd a k := Or.inl (Or.inl (Or.inl q))
theorem vc_62 (hT : vx_T 625 672 h) (X : vt_tr h n c) (h11 : vx_J h 625 11 = s0) (hs : s0 + sd = 1) : vx_CI (d + 7 + 1) 62 [.ref 625] h (fun r h1 => vx_fr (vu_SV sd) h h1 ∧ vx_J h1 625 2 = 0 ∧ vu_rE sd (vu_prog (vt_toks c n 600 0)) h1 ∧ vu_rO s0 sd (vu_prog (vt_toks c n 600 0)) h r h1) := by
  have sd2 : sd < 2 := by omega
  obtain ⟨ok, ok2, ok3⟩ := vt_toks_ok X.2.1 (fun j hj => (X.2.2 j hj).2)
  obtain ⟨ts, ets⟩ : ∃ ts, ts = vt_toks c n 600 0 := ⟨_, rfl⟩
  rw [← ets] at ok ok2 ok3 ⊢
  refine vg_62 hT (vx_CV_mono (vc_61 (d := d + 3) hT X) ?_)
  rintro h1 ⟨f1, j2, j3, j4, j10, k1⟩ T1 h2 e2 T2 h3 e3 T3
  rw [← ets] at k1
  rw [vx_fr_J f1 (by simp), h11, show (1 : Int) - (s0 : Int) = (sd : Int) by omega] at e2
  have a3 : vx_J h3 625 48 = sd := by rw [e3, vx_J_ne (by omega), e2, vx_J_eq (by omega)]
  rw [a3, Int.toNat_natCast]
  refine ⟨by omega, fun h5 e5 T5 => ?_⟩
  have a5 : vx_J h5 625 48 = sd := by rw [e5, vx_J_ne (by omega), a3]
  rw [a5, Int.toNat_natCast]
  refine ⟨by omega, fun h7 e7 T7 => ?_⟩
  have a7 : vx_J h7 625 48 = sd := by rw [e7, vx_J_ne (by omega), a5]
  rw [a7, Int.toNat_natCast]
  refine ⟨by omega, fun h9 e9 T9 => ?_⟩
  have f9 : vx_fr (fun a k => (a = 625 ∧ (k = 48 ∨ k = 49)) ∨ ((a = 631 ∨ a = 635 ∨ a = 647) ∧ k = sd)) h1 h9 := vx_fr_sJ (vx_fr_sJ (vx_fr_sJ (vx_fr_sJ (vx_fr_sJ vx_fr_refl e2 (by omega)) e3 (by omega)) e5 (by omega)) e7 (by omega)) e9 (by omega)
  have F9 : vx_fr (vu_SV sd) h h9 := vx_fr_trans (vx_fr_mono f1 (fun a k q => by
    rcases q with ⟨rfl, q⟩ | q
    · left; right; left; omega
    · left; right; right; exact q)) (vx_fr_mono f9 (fun a k q => by
    rcases q with ⟨rfl, q⟩ | ⟨q, q2⟩
    · left; right; left; omega
    · exact vu_SV_k (Or.inr (Or.inr (Or.inl ⟨q, q2⟩)))))
  have b2 : vx_J h9 625 2 = 0 := (vx_fr_J f9 (by simp)).trans j2
  have b11 : vx_J h9 625 11 = s0 := (vx_fr_J f9 (by simp)).trans ((vx_fr_J f1 (by simp)).trans h11)
  have b31 : vx_J h9 625 31 = vx_J h 625 31 := (vx_fr_J f9 (by simp)).trans (vx_fr_J f1 (by simp))
  have b32 : vx_J h9 625 32 = vx_J h 625 32 := (vx_fr_J f9 (by simp)).trans (vx_fr_J f1 (by simp))
  have C9 : vu_rT h9 ts sd 0 vu_S0 := by
    refine ⟨vy_kr_fr k1 f9 (fun k => by simp), (vx_fr_J f9 (by simp)).trans j10, ok.1, ?_, ?_, ⟨sd2, ?_, by decide, fun p hp => absurd (show p < 0 from hp) (by omega)⟩, ⟨(vx_fr_J f9 (by simp)).trans j3, (vx_fr_J f9 (by simp)).trans j4⟩, by decide, ?_, by decide, fun r hr => absurd (show r < 0 from hr) (by omega), 0, ?_, by decide, fun _ => ⟨rfl, fun j hj => absurd (show j < 0 from hj) (by omega)⟩⟩
    · rw [e9, vx_J_ne (by omega), a7]
    · rw [e9, vx_J_ne (by omega), e7, vx_J_ne (by omega), e5, vx_J_ne (by omega), e3, vx_J_eq (by decide)]
    · rw [e9, vx_J_ne (by omega), e7, vx_J_ne (by omega), e5, vx_J_eq (by decide)]; rfl
    · rw [e9, vx_J_ne (by omega), e7, vx_J_eq (by decide)]; rfl
    · rw [e9, vx_J_eq (by decide)]; rfl
  have KP : ∀ g, vx_fr (vu_Sk sd) h9 g → vx_fr (vu_SV sd) h g ∧ vx_J g 625 2 = 0 ∧ vx_J g 625 11 = s0 ∧ vx_J g 625 31 = vx_J h 625 31 ∧ vx_J g 625 32 = vx_J h 625 32 := fun g f =>
    ⟨vx_fr_trans F9 (vx_fr_mono f (fun a k q => vu_SV_k q)), (vx_fr_J f (by simp [vu_Sk])).trans b2, (vx_fr_J f (by simp [vu_Sk])).trans b11, (vx_fr_J f (by simp [vu_Sk])).trans b31, (vx_fr_J f (by simp [vu_Sk])).trans b32⟩
  -- where a fault stands
  have BAD : ∀ g Ff, vx_T 625 672 g → vx_fr (vu_SV sd) h g → vx_J g 625 2 = 0 → vx_J g 625 11 = s0 → vx_J g 625 31 = vx_J h 625 31 → vx_J g 625 32 = vx_J h 625 32 → vy_rf g Ff → Ff.1 ≠ 0 → vu_prog ts = .inl Ff → vx_CI (d + 7) 20 [.ref 625, .int (vx_i 1)] g (fun r17 h17 => vx_T 625 672 h17 → vx_fr (vu_SV sd) h h17 ∧ vx_J h17 625 2 = 0 ∧ vu_rE sd (vu_prog ts) h17 ∧ vu_rO s0 sd (vu_prog ts) h r17 h17) := by
    intro g Ff Tg fg g2 g11 g31 g32 hf F0 e
    refine vx_CI_mono (vc_20 (d := d + 7) Tg (by decide)) ?_
    rintro r17 h17 _ ⟨rfl, f17, j17⟩ _
    rw [e]
    refine ⟨vx_fr_trans fg (vx_fr_mono f17 (fun a k q => by left; right; left; omega)), (vx_fr_J f17 (by simp)).trans g2, ⟨F0, (vx_fr_J f17 (by simp)).trans hf.1, (vx_fr_J f17 (by simp)).trans hf.2⟩, j17, (vx_fr_J f17 (by simp)).trans g11, (vx_fr_J f17 (by simp)).trans g31, (vx_fr_J f17 (by simp)).trans g32⟩
  refine vc_62_51 (d := d) (h := h9) (R0 := vu_pl ts 600 0 vu_S0) ok ok2 sd2 (fun p g e Tg f b => ?_) (fun S' i' g e Tg f C => ?_) 600 0 vu_S0 h9 (by omega) T9 vx_fr_refl C9 rfl
  · obtain ⟨q1, q2, q3, q4, q5⟩ := KP g f
    refine ⟨fun _ => BAD g (1, p) Tg q1 q2 q3 q4 q5 b (show (1 : Int) ≠ 0 by decide) (by unfold vu_prog; rw [e]), fun t => absurd (b.1.symm.trans t) (by decide)⟩
  · obtain ⟨q1, q2, q3, q4, q5⟩ := KP g f
    obtain ⟨c1, c2, c3, c4, c5, c6, c7, c8, c9, c10, c11, c0, e47, -, rF⟩ := C
    have ep0 : vu_prog ts = if S'.2.1.1 ≠ 0 then .inl S'.2.1 else match vs_hp (vs_w (vs_e S'.2.2.1 S'.2.2.2.1) 16) S'.2.2.1 S'.2.2.2.1 with
          | some p => .inl (4, p)
          | none => .inr S' := by
      unfold vu_prog
      rw [e]
      rfl
    refine ⟨fun q => ?_, fun q => ?_⟩
    · have z : S'.2.1.1 ≠ 0 := fun t => q (c7.1.trans t)
      rw [if_pos z] at ep0
      exact BAD g S'.2.1 Tg q1 q2 q3 q4 q5 c7 z ep0
    · have z : S'.2.1.1 = 0 := c7.1.symm.trans q
      rw [if_neg (fun t => t z)] at ep0
      have WS := vu_pl_w ok ok2 ok3 600 0 vu_S0 (fun _ => vu_S0_w) e z
      have M0 : vu_mo S'.1 S'.2.1 S'.1 (0, 0) := ⟨fun _ => z, fun p hp => ⟨hp, rfl⟩⟩
      have G : vu_rg g sd S'.1 S'.2.2.1 S'.2.2.2.1 := ⟨c6, c4, c9, c10, fun r hr => vu_rr_mono (c11 r hr) M0⟩
      refine vx_CV_mono (vc_59 (d := d + 5) Tg G WS.1 c7 z) ?_
      rintro h18 ⟨f18, F18⟩ T18
      have G18 : vu_rg h18 sd S'.1 S'.2.2.1 S'.2.2.2.1 := vu_rg_fr G f18 (fun a k t => t.elim Or.inl (fun t => Or.inr (Or.inr t)))
      have FV18 : vx_fr (vu_SV sd) h h18 := vx_fr_trans q1 (vx_fr_mono f18 (fun a k q => q.elim (fun t => Or.inl (Or.inl (Or.inr (Or.inl t)))) (fun t => Or.inl (Or.inr (Or.inl (by omega))))))
      have k2 : vx_J h18 625 2 = 0 := (vx_fr_J f18 (by simp)).trans q2
      have k11 : vx_J h18 625 11 = s0 := (vx_fr_J f18 (by simp)).trans q3
      have k31 : vx_J h18 625 31 = vx_J h 625 31 := (vx_fr_J f18 (by simp)).trans q4
      have k32 : vx_J h18 625 32 = vx_J h 625 32 := (vx_fr_J f18 (by simp)).trans q5
      cases ev : vs_hp (vs_w (vs_e S'.2.2.1 S'.2.2.2.1) 16) S'.2.2.1 S'.2.2.2.1 with
      | some p =>
        rw [ev] at F18 ep0
        have F18 : vy_rf h18 (4, p) := F18
        refine ⟨fun t => absurd (F18.1.symm.trans t) (show (4 : Int) ≠ 0 by decide), fun _ => BAD h18 (4, p) T18 FV18 k2 k11 k31 k32 F18 (show (4 : Int) ≠ 0 by decide) ep0⟩
      | none =>
        rw [ev] at F18 ep0
        have F18 : vy_rf h18 S'.2.1 := F18
        refine ⟨fun _ => vx_CV_mono (vc_60 (d := d + 6) T18 G18 WS.1 ev) ?_, fun t => absurd (F18.1.trans z) t⟩
        rintro h20 ⟨f20, s, l20, s20⟩ T20 h21 e21 T21 h22 e22 T22 h23 e23 T23 h24 e24 T24
        have G20 := vu_rg_4 G18 f20
        have m48 : vx_J h21 625 48 = sd := by rw [e21, vx_J_ne (by omega)]; exact G20.2.1
        rw [m48, Int.toNat_natCast]
        rw [m48] at e22
        have f24 : vx_fr (fun a k => a = 625 ∧ (k = 0 ∨ k = 11 ∨ k = 31 ∨ k = 32)) h20 h24 := vx_fr_sJ (vx_fr_sJ (vx_fr_sJ (vx_fr_sJ vx_fr_refl e21 (by omega)) e22 (by omega)) e23 (by omega)) e24 (by omega)
        have fg24 : vx_fr (fun a k => a = 663 ∨ a = 634 ∨ (a = 625 ∧ (k = 0 ∨ k = 3 ∨ k = 4 ∨ k = 11 ∨ k = 31 ∨ k = 32))) g h24 := vx_fr_trans (vx_fr_mono f18 (fun a k q => q.elim Or.inl (fun t => Or.inr (Or.inr (by omega))))) (vx_fr_trans (vx_fr_mono f20 (fun a k q => Or.inr (Or.inl q.1))) (vx_fr_mono f24 (fun a k q => Or.inr (Or.inr (by omega)))))
        have n635 : vx_J h24 635 sd = S'.2.2.1 := (vx_fr_J f24 (by simp)).trans G20.2.2.1
        refine ⟨by omega, ?_⟩
        rw [n635, ep0]
        have N : ∀ a k, a ≠ 663 → a ≠ 634 → a ≠ 625 → ¬ (a = 663 ∨ a = 634 ∨ (a = 625 ∧ (k = 0 ∨ k = 3 ∨ k = 4 ∨ k = 11 ∨ k = 31 ∨ k = 32))) := fun a k h1 h2 h3 t => t.elim h1 (fun t => t.elim h2 (fun t => h3 t.1))
        refine ⟨vx_fr_trans FV18 (vx_fr_trans (vx_fr_mono f20 (fun a k q => Or.inl (Or.inl (Or.inr (Or.inr q))))) (vx_fr_mono f24 (fun a k q => ?_))), (vx_fr_J f24 (by simp)).trans ((vx_fr_J f20 (by simp)).trans k2), ⟨⟨(vx_fr_J f24 (by simp)).trans ((vx_fr_J f20 (by simp)).trans F18.1), (vx_fr_J f24 (by simp)).trans ((vx_fr_J f20 (by simp)).trans F18.2)⟩, z, ⟨vy_rp_fr G20.1 f24 (by simp), (vx_fr_J f24 (by simp)).trans G20.2.1, n635, c10, fun r hr => vu_rr_fr (G20.2.2.2.2 r hr) f24 (fun a ha => by rcases ha with rfl | rfl | rfl | rfl | rfl | rfl <;> simp) (fun k _ _ => by simp) (fun k _ _ => by simp) (fun k _ _ => by simp)⟩, ?_, fun j hj => vu_rf_fr ((rF z).2 j hj) fg24 ⟨N _ _ (by decide) (by decide) (by decide), fun k _ _ => N _ _ (by decide) (by decide) (by decide)⟩, s, l20, fun p hp => (vx_fr_J f24 (by simp)).trans (s20 p hp)⟩, ?_, rfl, ?_, ?_, ?_⟩
        · obtain ⟨rfl, q⟩ := q
          rcases q with q | q
          · left; right; left; omega
          · right; exact ⟨rfl, q⟩
        · rw [vx_fr_J fg24 (N _ _ (by decide) (by decide) (by decide)), e47, (rF z).1]
        · rw [e24, vx_J_ne (by omega), e23, vx_J_ne (by omega), e22, vx_J_ne (by omega), e21, vx_J_eq (by decide)]
        · rw [e24, vx_J_ne (by omega), e23, vx_J_ne (by omega), e22, vx_J_eq (by omega)]
        · rw [e24, vx_J_ne (by omega), e23, vx_J_eq (by decide)]
        · rw [e24, vx_J_eq (by decide)]
end
