/-! Reading literals: the reference -/
/-- while the terms of a relation are read -/
def vy_u4 (ts : vy_T) (cl l : Nat) (pl : Int) (h g : ve_H) (j : Nat) (W : vy_V) (A : Nat → Int) (m : Nat) : Prop := vx_fr (vy_Sw cl l) h g ∧ vy_rx h g ∧ vy_rb g ts cl j W ∧ (∀ k, k < m → vy_tr (A k) (vx_J g 645 (4 * l + k)) (vx_K g 646 (4 * l + k))) ∧ vx_J g 660 l = pl
section
variable {d i cl sd l : Nat} {h h1 g : ve_H} {ts : vy_T} {V Pd : vy_V} {O : vy_O} {F : vy_F} {L : vy_L} {op : Bool} {at_ : Nat} {pl : Int}
theorem vy_u4_at {j m : Nat} {W : vy_V} {A : Nat → Int} (ok : vy_ok ts) (S : vy_u4 ts cl l pl h g j W A m) (e : h1 = vx_sJ g 625 10 ((vx_J g 625 10) + 1)) (hk : vy_k ts j ≠ 0) : vy_u4 ts cl l pl h h1 (j + 1) W A m := by
  obtain ⟨s1, s2, s3, s4, s5⟩ := S
  have hj := s3.2.2.1
  have hl := ok.2.1
  rw [s3.2.1] at e
  have f : vx_fr (fun a k => a = 625 ∧ k = 10) g h1 := vx_fr_sJ vx_fr_refl e ⟨rfl, rfl⟩
  refine ⟨vx_fr_trans s1 (vx_fr_mono f (fun a k q => vy_Sw_10 q)), ⟨(vx_fr_J f (by simp)).trans s2.1, (vx_fr_J f (by simp)).trans s2.2⟩, vy_rb_at s3 e (j := j + 1) (by omega) (vy_nx ok hj hk) (by omega), fun k hk => ?_, (vx_fr_J f (by simp)).trans s5⟩
  rw [vx_fr_J f (by simp), vx_fr_K f (by simp)]
  exact s4 k hk
theorem vy_u4_43 {j m b : Nat} {x : Int} {W : vy_V} {A : Nat → Int} (S : vy_u4 ts cl l pl h g j W A m) (e : h1 = vx_sJ g b l x) (hb : b = 643 ∨ b = 644) : vy_u4 ts cl l pl h h1 j W A m := by
  obtain ⟨s1, s2, s3, s4, s5⟩ := S
  have f : vx_fr (fun a k => (a = 643 ∨ a = 644) ∧ k = l) g h1 := vx_fr_sJ vx_fr_refl e ⟨hb, rfl⟩
  refine ⟨vx_fr_trans s1 (vx_fr_mono f (fun a k q => Or.inr (Or.inl (by omega)))), ⟨(vx_fr_J f (by simp)).trans s2.1, (vx_fr_J f (by simp)).trans s2.2⟩, vy_rb_fr s3 f (fun k => by simp) (by simp) (by simp), fun k hk => ?_, (vx_fr_J f (by simp)).trans s5⟩
  rw [vx_fr_J f (by simp), vx_fr_K f (by simp)]
  exact s4 k hk
/-- a term, and laid -/
theorem vc_39l {j k0 : Nat} {W : vy_V} {A : Nat → Int} {v1 x2 : Int} {P : Int → ve_H → Prop} {Q : ve_H → Prop} (ok : vy_ok ts) (hT : vx_T 625 672 g) (h3 : vx_J h 625 3 ≠ 1) (S : vy_u4 ts cl l pl h g j W A k0) (hv : v1 = l) (hx : x2 = k0) (hl : l < 366) (hk : k0 < 4)
    (X1 : ∀ p g1, vy_tm ts false j W = .inl p → vx_fr (vy_Sw cl l) h g1 → vy_rbad p g1 → P 0 g1)
    (X2 : ∀ q g1, vx_T 625 672 g1 → vy_tm ts false j W = .inr q → vx_fr (fun a k => vy_Sr cl a k ∨ a = 645 ∨ a = 646) g g1 → vy_u4 ts cl l pl h g1 q.2.1 q.2.2 (vy_set A k0 q.1) (k0 + 1) → Q g1) :
    vx_CI (d + 3) 39 [.ref 625] g (fun r8 h8 => vx_T 625 672 h8 → ((r8 ≠ 0 → vx_CV (d + 3) 44 [.ref 625, .int (vx_i v1), .int (vx_i x2)] h8 (fun h10 => vx_T 625 672 h10 → Q h10)) ∧ (r8 = 0 → P 0 h8))) := by
  obtain ⟨s1, s2, s3, s4, s5⟩ := S
  refine vx_CI_mono (vc_39 (d := d) hT ok s3 (by rw [s2.1]; exact h3)) ?_
  rintro r8 h8 _ ⟨f8, p8⟩ T8
  have F8 : vx_fr (vy_Sw cl l) h h8 := vx_fr_trans s1 (vx_fr_mono f8 (fun a k q => vy_Sw_r q))
  cases e : vy_tm ts false j W with
  | inl p =>
    rw [e] at p8
    obtain ⟨rfl, b⟩ := p8
    exact ⟨fun t => absurd rfl t, fun _ => X1 p h8 e F8 b⟩
  | inr q =>
    rw [e] at p8
    obtain ⟨rfl, t8, n8, x8, B8, -⟩ := p8
    refine ⟨fun _ => vx_CV_mono (vc_44 (t := q.1) T8 hv hx hl hk t8) ?_, fun t => absurd t (by decide)⟩
    rintro h10 ⟨f10, t10⟩ T10
    have A10 : ∀ k, k < k0 + 1 → vy_tr (vy_set A k0 q.1 k) (vx_J h10 645 (4 * l + k)) (vx_K h10 646 (4 * l + k)) := by
      intro k hk2
      by_cases qk : k = k0
      · rw [qk, vy_set_eq]; exact t10
      · rw [vy_set_lt qk, vx_fr_J f10 (fun t => qk (by omega)), vx_fr_K f10 (fun t => qk (by omega)), vx_fr_J f8 (by simp [vy_Sr]), vx_fr_K f8 (by simp [vy_Sr])]
        exact s4 k (by omega)
    refine X2 q h10 T10 e (vx_fr_trans (vx_fr_mono f8 (fun a k q => Or.inl q)) (vx_fr_mono f10 (fun a k q => Or.inr q.1))) ⟨vx_fr_trans F8 (vx_fr_mono f10 (fun a k q => Or.inr (Or.inr ⟨q.1, by omega, by omega⟩))), ⟨(vx_fr_J f10 (by simp)).trans (x8.1.trans s2.1), (vx_fr_J f10 (by simp)).trans (x8.2.trans s2.2)⟩, vy_rb_fr B8 f10 (fun k => by simp) (by simp) (by simp), A10, (vx_fr_J f10 (by simp)).trans ((vx_fr_J f8 (by simp [vy_Sr])).trans s5)⟩
/-- a relation is done -/
theorem vc_45_end {v1 v2 v3 v4 : Int} {v5 : Option Value} {P : Int → ve_H → Prop} {j m : Nat} {W : vy_V} {A : Nat → Int} {kd e : Int} (hT : vx_T 625 672 g) (B : vy_rs h ts cl sd op i V O Pd F L at_) (hL : L.1 < 6) (S : vy_u4 ts cl (6 * cl + L.1) pl h g j W A m) (hm : m ≤ 4) (hA : ∀ k, m ≤ k → A k = 0)
    (k3 : vx_J g 643 (6 * cl + L.1) = vy_rk kd) (k4 : (kd = 5 ∧ m = 3 ∧ vx_J g 644 (6 * cl + L.1) = e) ∨ (vy_rel kd ∧ m = 2 ∧ vx_J g 644 (6 * cl + L.1) = vy_sr kd))
    (X : ∀ g1, vx_fr (vy_Sz cl sd) h g1 → vy_rs g1 ts cl sd op j W O Pd F (vy_la L kd e pl A) at_ → P 1 g1) : vx_W (d + 1) 45 557 [some (.ref 625), some (.int (vx_i v1)), some (.int (vx_i v2)), some (.int (vx_i v3)), some (.int (vx_i v4)), v5] [] g (vx_RI P) := by
  obtain ⟨Br, Bl, B58, B3, B39⟩ := B
  obtain ⟨s1, s2, s3, s4, s5⟩ := S
  have c42 : vx_J g 625 42 = cl := s3.2.2.2.1
  have hcl := s3.2.2.2.2.1
  have c41 : vx_J g 641 cl = L.1 := (vx_fr_J s1 (by simp [vy_Sr])).trans Bl.1
  refine vg_45_557 hT ?_
  rw [c42, Int.toNat_natCast, c41]
  refine ⟨by omega, by omega, fun h3 e3 T3 => ?_⟩
  have f3 : vx_fr (fun a k => a = 641 ∧ k = cl) g h3 := vx_fr_sJ vx_fr_refl e3 ⟨rfl, rfl⟩
  have Q : vy_rq g (6 * cl + L.1) Pd F kd e pl A := by
    refine ⟨s5, k3, m, hm, s4, fun k h1 _ => hA k h1, ?_, ?_, ?_⟩
    · rintro t; exfalso; rcases k4 with ⟨u, -⟩ | ⟨u, -⟩ <;> omega
    · rintro t; rcases k4 with ⟨u, a, b⟩ | ⟨u, a, b⟩
      · exact ⟨a, b⟩
      · exfalso; omega
    · rintro t; rcases k4 with ⟨u, a, b⟩ | ⟨u, a, b⟩
      · exfalso; omega
      · exact ⟨a, b⟩
  have hx3 : vx_J h3 625 3 = F.1 ∧ vx_J h3 625 4 = F.2 := ⟨(vx_fr_J f3 (by simp)).trans (s2.1.trans Br.2.2.2.2.2.1.1), (vx_fr_J f3 (by simp)).trans (s2.2.trans Br.2.2.2.2.2.1.2)⟩
  refine X h3 (vx_fr_trans (vx_fr_mono s1 (fun a k q => vy_Sz_w hL rfl q)) (vx_fr_mono f3 (fun a k q => vy_Sz_641 q))) ⟨⟨vy_rb_fr s3 f3 (fun k => by simp) (by simp) (by simp), vy_ro_fr (vy_ro_fr Br.2.1 s1 (by simp [vy_Sr])) f3 (by simp), (vx_fr_J f3 (by simp)).trans ((vx_fr_J s1 (by simp [vy_Sr])).trans Br.2.2.1), (vx_fr_J f3 (by simp)).trans ((vx_fr_J s1 (by simp [vy_Sr])).trans Br.2.2.2.1), ⟨Br.2.2.2.2.1.1, (vx_fr_J f3 (by simp)).trans ((vx_fr_J s1 (by simp [vy_Sr])).trans Br.2.2.2.2.1.2.1), Br.2.2.2.2.1.2.2.1, fun p hp => ?_⟩, hx3, Br.2.2.2.2.2.2⟩, vy_rl_add (sd := sd) Bl hL (vx_fr_mono s1 (fun a k q => Or.inr (Or.inl q))) (fun t => t) (fun p hp => ⟨hp, rfl⟩) Q e3, (vx_fr_J f3 (by simp)).trans ((vx_fr_J s1 (by simp [vy_Sr])).trans B58), B3, (vx_fr_J f3 (by simp)).trans ((vx_fr_J s1 (by simp [vy_Sr])).trans B39)⟩
  rw [vx_fr_K f3 (by simp), vx_fr_J f3 (by simp), vx_fr_K s1 (by simp [vy_Sr]), vx_fr_J s1 (by simp [vy_Sr])]
  exact Br.2.2.2.2.1.2.2.2 p hp
/-- from a relation's first term on -/
theorem vc_45_335 {v1 v2 v3 v4 : Int} {P : Int → ve_H → Prop} {q : Int × Nat × vy_V} (ok : vy_ok ts) (hT : vx_T 625 672 g) (B : vy_rs h ts cl sd op i V O Pd F L at_) (hL : L.1 < 6) (hv : v1 = ((6 * cl + L.1 : Nat) : Int)) (S : vy_u4 ts cl (6 * cl + L.1) pl h g q.2.1 q.2.2 (vy_set (fun _ => 0) 0 q.1) 1) (h4 : vx_rI v4 ∧ (v4 ≠ 0 ↔ vy_k ts i = 3)) (e1 : vy_tm ts false i V = .inr q)
    (X1 : ∀ p g1, vy_re ts i V = .inl p → vx_fr (vy_Sz cl sd) h g1 → vy_rbad p g1 → P 0 g1)
    (X2 : ∀ u g1, vy_re ts i V = .inr u → vx_fr (vy_Sz cl sd) h g1 → vy_rs g1 ts cl sd op u.1 u.2.1 O Pd F (vy_la L u.2.2.1 u.2.2.2.1 pl u.2.2.2.2) at_ → P 1 g1) :
    vx_W (d + 3 + 1) 45 335 [some (.ref 625), some (.int (vx_i v1)), some (.int (vx_i v2)), some (.int (vx_i v3)), some (.int (vx_i v4)), none] [] g (vx_RI P) := by
  have hcl := B.1.1.2.2.2.2.1
  have n1 : vx_J h 625 3 ≠ 1 := by rw [B.1.2.2.2.2.2.1.1]; exact B.1.2.2.2.2.2.2
  have hl := ok.2.1
  have hll : 6 * cl + L.1 < 366 := by omega
  have ev : v1.toNat = 6 * cl + L.1 := by omega
  have hv3 : 0 ≤ v1 ∧ v1 < 366 := by omega
  have X1' : ∀ p g1, vy_re ts i V = .inl p → vx_fr (vy_Sw cl (6 * cl + L.1)) h g1 → vy_rbad p g1 → P 0 g1 := fun p g1 e f b => X1 p g1 e (vx_fr_mono f (fun a k q => vy_Sz_w hL rfl q)) b
  have REF : ∀ (g : ve_H) (j : Nat) (W : vy_V) (A : Nat → Int) (m : Nat), vx_T 625 672 g → vy_u4 ts cl (6 * cl + L.1) pl h g j W A m → vy_re ts i V = .inl (vy_p ts j) → vx_CI (d + 3) 33 [.ref 625] g (fun r14 h14 => vx_T 625 672 h14 → (r14 = 0 ∨ r14 = 1) ∧ P r14 h14) := by
    intro g j W A m Tg S e
    refine vx_CI_mono (vc_33 (d := d + 2) Tg ok S.2.2.1 (by rw [S.2.1.1]; exact n1)) ?_
    rintro r14 h14 _ ⟨rfl, f14, b14⟩ _
    exact ⟨Or.inl rfl, X1' _ h14 e (vx_fr_trans S.1 (vx_fr_mono f14 (fun a k q => vy_Sw_b q))) b14⟩
  -- a relation's sign and second term
  have REL : ¬ (vy_k ts i = 3 ∧ vy_k ts q.2.1 = 5) → vx_CI (d + 3) 43 [.ref 625] g (fun r3 h3 => vx_T 625 672 h3 → ((r3 ≠ 0 → (0 ≤ v1 ∧ v1 < 366) ∧ (∀ h6, h6 = vx_sJ h3 643 v1.toNat 2 → vx_T 625 672 h6 → vx_CI (d + 3) 43 [.ref 625] h6 (fun r7 h7 => vx_T 625 672 h7 → (0 ≤ v1 ∧ v1 < 366) ∧ (∀ h9, h9 = vx_sJ h7 644 v1.toNat r7 → vx_T 625 672 h9 → (∀ h10, h10 = vx_sJ h9 625 10 ((vx_J h9 625 10) + 1) → vx_T 625 672 h10 → vx_CI (d + 3) 39 [.ref 625] h10 (fun r11 h11 => vx_T 625 672 h11 → ((r11 ≠ 0 → vx_CV (d + 3) 44 [.ref 625, .int (vx_i v1), .int (vx_i 1)] h11 (fun h13 => vx_T 625 672 h13 → vx_W (d + 3 + 1) 45 557 [some (.ref 625), some (.int (vx_i v1)), some (.int (vx_i v2)), some (.int (vx_i v3)), some (.int (vx_i v4)), none] [] h13 (vx_RI P))) ∧ (r11 = 0 → P 0 h11)))))))) ∧ (r3 = 0 → vx_CI (d + 3) 33 [.ref 625] h3 (fun r14 h14 => vx_T 625 672 h14 → (r14 = 0 ∨ r14 = 1) ∧ P r14 h14)))) := by
    intro hno
    have e0 : vy_re ts i V = if vy_rel (vy_k ts q.2.1) then
      (match vy_tm ts false (q.2.1 + 1) q.2.2 with
       | .inl p => .inl p
       | .inr u => .inr (u.2.1, u.2.2, vy_k ts q.2.1, vy_k ts u.2.1, vy_set (vy_set (fun _ => 0) 0 q.1) 1 u.1))
      else .inl (vy_p ts q.2.1) := by
      unfold vy_re
      rw [e1]
      exact if_neg hno
    refine vx_CI_mono (vc_43 hT ok S.2.2.1) ?_
    rintro r3 h3 _ ⟨rfl, hr3⟩ _
    rcases hr3 with ⟨hrel, -, hr0⟩ | ⟨hrel, rfl⟩
    · rw [if_pos hrel] at e0
      refine ⟨fun _ => ⟨hv3, fun h6 e6 T6 => ?_⟩, fun t => absurd t hr0⟩
      rw [ev] at e6
      have S6 := vy_u4_43 S e6 (Or.inl rfl)
      refine vx_CI_mono (vc_43 T6 ok S6.2.2.1) ?_
      rintro r7 h7 hr7 ⟨rfl, hq7⟩ _
      have r7e : r7 = vy_sr (vy_k ts q.2.1) := by
        rcases hq7 with ⟨-, t, -⟩ | ⟨t, -⟩
        · exact t
        · exact absurd hrel t
      refine ⟨hv3, fun h9 e9 T9 h10 e10 T10 => ?_⟩
      rw [ev] at e9
      have S9 := vy_u4_43 S6 e9 (Or.inr rfl)
      have S10 := vy_u4_at ok S9 e10 (by omega)
      have a9 : vx_J h9 643 (6 * cl + L.1) = 2 := by rw [e9, vx_J_ne (by simp), e6, vx_J_eq (by decide)]
      have b9 : vx_J h9 644 (6 * cl + L.1) = vy_sr (vy_k ts q.2.1) := by rw [e9, vx_J_eq hr7, r7e]
      have c10 : ∀ b, b = 643 ∨ b = 644 → vx_J h10 b (6 * cl + L.1) = vx_J h9 b (6 * cl + L.1) := fun b hb => by rw [e10, vx_J_ne (by omega)]
      refine vc_39l (d := d) (k0 := 1) ok T10 n1 S10 hv rfl hll (by decide) (fun p g1 e f b => X1' p g1 (by rw [e0, e]) f b) (fun u g1 T13 e f13 S13 => ?_)
      rw [e] at e0
      refine vc_45_end (d := d + 3) (kd := vy_k ts q.2.1) (e := vy_k ts u.2.1) T13 B hL S13 (by decide) (fun k hk => ?_) ?_ (Or.inr ⟨hrel, rfl, ?_⟩) (fun g1 f c => X2 _ g1 e0 f c)
      · rw [vy_set_lt (by omega), vy_set_lt (by omega)]
      · rw [vx_fr_J f13 (by simp [vy_Sr]), c10 643 (Or.inl rfl), a9]
        unfold vy_rk
        rw [if_neg (by omega), if_neg (by omega), if_neg (by omega)]
      · rw [vx_fr_J f13 (by simp [vy_Sr]), c10 644 (Or.inr rfl), b9]
    · exact ⟨fun t => absurd rfl t, fun _ => REF h3 _ _ _ _ hT S (by rw [e0, if_neg hrel])⟩
  have hkr := (vy_kr S.2.2.1.1 S.2.2.1.2.2.1).2
  have k5 : (vx_J g 627 q.2.1 = 5 ∧ vx_J g 629 q.2.1 = 1) ↔ vy_k ts q.2.1 = 5 := by
    obtain ⟨a0, a1, a2, a3, a4, a5, a6, a7, a8, -⟩ := hkr
    constructor
    · intro t
      rcases (by omega : vy_k ts q.2.1 = 0 ∨ vy_k ts q.2.1 = 1 ∨ vy_k ts q.2.1 = 2 ∨ vy_k ts q.2.1 = 3 ∨ vy_k ts q.2.1 = 4 ∨ (5 ≤ vy_k ts q.2.1 ∧ vy_k ts q.2.1 ≤ 9) ∨ (10 ≤ vy_k ts q.2.1 ∧ vy_k ts q.2.1 ≤ 13) ∨ 14 ≤ vy_k ts q.2.1) with u | u | u | u | u | u | u | u
      · have := a0 u; omega
      · have := a1 u; omega
      · have := (a2 u).1; omega
      · have := (a3 u).1; omega
      · have := (a4 u).1; omega
      · have := (a5 u).2; omega
      · have := (a6 u).1; omega
      · have := (a7 u).1; omega
    · intro t
      have := a5 (by omega)
      exact ⟨this.1, by omega⟩
  refine vg_45_335 hT ?_
  rw [S.2.2.1.2.1, Int.toNat_natCast]
  have hq6 : q.2.1 < 602 := by have := S.2.2.1.2.2.1; omega
  refine ⟨h4.1, fun q4 => REL (fun t => (h4.2.mpr t.1) q4), fun q4 => ⟨by omega, fun q5 => REL (fun t => q5 (k5.mpr t.2).1), fun q5 => ⟨by omega, fun q6 => REL (fun t => q6 (k5.mpr t.2).2), fun q6 h46 e46 T46 => ⟨hv3, fun h48 e48 T48 => ?_⟩⟩⟩⟩
  have his := k5.mp ⟨q5, q6⟩
  have hva := h4.2.mp q4
  have e0 : vy_re ts i V = match vy_tm ts false (q.2.1 + 1) q.2.2 with
     | .inl p => .inl p
     | .inr u => if vy_opn (vy_k ts u.2.1) then
         (match vy_tm ts false (u.2.1 + 1) u.2.2 with
          | .inl p => .inl p
          | .inr w => .inr (w.2.1, w.2.2, 5, vy_k ts u.2.1, vy_set (vy_set (vy_set (fun _ => 0) 0 q.1) 1 u.1) 2 w.1))
       else .inl (vy_p ts u.2.1) := by
    unfold vy_re
    rw [e1]
    exact if_pos ⟨hva, his⟩
  rw [← S.2.2.1.2.1] at e46
  have S46 := vy_u4_at ok S e46 (by omega)
  rw [ev] at e48
  have S48 := vy_u4_43 S46 e48 (Or.inl rfl)
  have a48 : vx_J h48 643 (6 * cl + L.1) = 3 := by rw [e48, vx_J_eq (by decide)]
  refine vc_39l (d := d) (k0 := 1) ok T48 n1 S48 hv rfl hll (by decide) (fun p g1 e f b => X1' p g1 (by rw [e0, e]) f b) (fun u g1 T51 e2 f51 S51 => ?_)
  rw [e2] at e0
  have e0 : vy_re ts i V = if vy_opn (vy_k ts u.2.1) then
         (match vy_tm ts false (u.2.1 + 1) u.2.2 with
          | .inl p => .inl p
          | .inr w => .inr (w.2.1, w.2.2, 5, vy_k ts u.2.1, vy_set (vy_set (vy_set (fun _ => 0) 0 q.1) 1 u.1) 2 w.1))
       else .inl (vy_p ts u.2.1) := e0
  have a51 : vx_J g1 643 (6 * cl + L.1) = 3 := (vx_fr_J f51 (by simp [vy_Sr])).trans a48
  -- behind the sign
  have SG : ∀ v5 : Int, vx_rI v5 → (v5 ≠ 0 ↔ vy_opn (vy_k ts u.2.1)) → vx_W (d + 3 + 1) 45 450 [some (.ref 625), some (.int (vx_i v1)), some (.int (vx_i v2)), some (.int (vx_i v3)), some (.int (vx_i v4)), some (.int (vx_i v5))] [] g1 (vx_RI P) := by
    intro v5 hv5 hop
    have hu := S51.2.2.1.2.2.1
    refine vg_45_450 T51 ⟨hv5, fun q5 => ?_, fun q5 => REF g1 _ _ _ _ T51 S51 (by rw [e0, if_neg (fun t => (hop.mpr t) q5)])⟩
    have hopn := hop.mp q5
    rw [if_pos hopn] at e0
    rw [S51.2.2.1.2.1, Int.toNat_natCast]
    refine ⟨by omega, hv3, fun h5 e5 T5 h6 e6 T6 => ?_⟩
    rw [ev] at e5
    have cr : vx_J g1 629 u.2.1 = vy_k ts u.2.1 := by
      have R := (vy_kr S51.2.2.1.1 hu).2
      obtain ⟨-, -, -, -, -, -, -, a7, -⟩ := R
      exact (a7 (by omega)).2.1
    rw [cr] at e5
    have S5 := vy_u4_43 S51 e5 (Or.inr rfl)
    have S6 := vy_u4_at ok S5 e6 (by omega)
    have b5 : vx_J h5 644 (6 * cl + L.1) = vy_k ts u.2.1 := by rw [e5, vx_J_eq (by omega)]
    have a5 : vx_J h5 643 (6 * cl + L.1) = 3 := by rw [e5, vx_J_ne (by simp)]; exact a51
    refine vc_39l (d := d) (k0 := 2) ok T6 n1 S6 hv rfl hll (by decide) (fun p g1 e f b => X1' p g1 (by rw [e0, e]) f b) (fun w g2 T9 e3 f9 S9 => ?_)
    rw [e3] at e0
    refine vc_45_end (d := d + 3) (kd := 5) (e := vy_k ts u.2.1) T9 B hL S9 (by decide) (fun k hk => ?_) ?_ (Or.inl ⟨rfl, rfl, ?_⟩) (fun g1 f c => X2 _ g1 e0 f c)
    · rw [vy_set_lt (by omega), vy_set_lt (by omega), vy_set_lt (by omega)]
    · rw [vx_fr_J f9 (by simp [vy_Sr]), e6, vx_J_ne (by simp), a5]
      rfl
    · rw [vx_fr_J f9 (by simp [vy_Sr]), e6, vx_J_ne (by simp), b5]
  have u6 := S51.2.2.1
  refine vx_CI_mono (vc_34 (s := 43) T51 ok u6 (by omega) rfl) ?_
  rintro r52 h52 _ ⟨rfl, c1⟩ _
  refine ⟨fun t => SG 1 (by decide) (by omega), fun t => vx_CI_mono (vc_34 (s := 45) T51 ok u6 (by omega) rfl) ?_⟩
  rintro r54 h54 _ ⟨rfl, c2⟩ _
  refine ⟨fun t => SG 1 (by decide) (by omega), fun t => vx_CI_mono (vc_34 (s := 42) T51 ok u6 (by omega) rfl) ?_⟩
  rintro r56 h56 _ ⟨rfl, c3⟩ _
  refine ⟨fun t => SG 1 (by decide) (by omega), fun t => vx_CI_mono (vc_34 (s := 47) T51 ok u6 (by omega) rfl) ?_⟩
  rintro r58 h58 _ ⟨rfl, c4⟩ _
  refine ⟨fun t => SG 1 (by decide) (by omega), fun t => vx_CI_mono (vc_34 (s := 37) T51 ok u6 (by omega) rfl) ?_⟩
  rintro r60 h60 _ ⟨rfl, c5⟩ _
  exact ⟨fun t => SG 0 (by decide) (by omega), fun t => SG 1 (by decide) (by omega)⟩
end
