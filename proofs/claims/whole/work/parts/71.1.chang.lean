/-! What hangs on its own absence: the class -/
def vu_cg (h : ve_H) (pi : Nat) (Pd : vy_V) (n : Nat) (RR : Nat → vu_R) : Prop := vy_cp h pi Pd ∧ vx_J h pi 7 = n ∧ n ≤ 30 ∧ ∀ r, r < n → vu_cr h (pi + 10 + 9 * r) (RR r)
def vs_cm (g : ve_H) (pi : Nat) (w : Nat → Nat → Prop) : Prop := ∀ p, p < 16 → (0 ≤ vx_J g (pi + 4) p ∧ vx_J g (pi + 4) p < 2147483648) ∧ ∀ b, vb (vx_J g (pi + 4) p) b = true ↔ w p b
theorem vx_hk : [39, 328].all (fun p => (vx_ka (p + 4)).beq 20 && ((vx_za (p + 4)).beq 16 && ((vx_ka (p + 3)).beq 20 && (vx_za (p + 3)).beq 16))) = true := by decide +kernel
theorem vx_ho {pi : Nat} (hp : vx_o 1 625 5 pi) : (vx_o 1 625 20 (pi + 4) ∧ vx_za (pi + 4) = 16) ∧ vx_o 1 625 20 (pi + 3) ∧ vx_za (pi + 3) = 16 := by
  have t := vx_hk
  simp only [List.all_cons, List.all_nil, Bool.and_true, Bool.and_eq_true] at t
  rcases (vx_po hp).2.2.2.2.2.2 with rfl | rfl
  · obtain ⟨⟨t1, t2, t3, t4⟩, -⟩ := t
    exact ⟨⟨⟨by omega, Nat.eq_of_beq_eq_true t1⟩, Nat.eq_of_beq_eq_true t2⟩, ⟨by omega, Nat.eq_of_beq_eq_true t3⟩, Nat.eq_of_beq_eq_true t4⟩
  · obtain ⟨-, t1, t2, t3, t4⟩ := t
    exact ⟨⟨⟨by omega, Nat.eq_of_beq_eq_true t1⟩, Nat.eq_of_beq_eq_true t2⟩, ⟨by omega, Nat.eq_of_beq_eq_true t3⟩, Nat.eq_of_beq_eq_true t4⟩
section
variable {d n m pi r : Nat} {h h1 g : ve_H} {Pd : vy_V} {RR : Nat → vu_R} {x y : Int}
theorem vu_cg_fr {S : Nat → Nat → Prop} (G : vu_cg h pi Pd n RR) (f : vx_fr S h h1) (hs : (¬ S pi 6 ∧ ¬ S pi 7) ∧ (∀ k, ¬ S (pi + 1) k ∧ ¬ S (pi + 2) k) ∧ ∀ a k, pi + 10 ≤ a → a < pi + 289 → ¬ S a k) : vu_cg h1 pi Pd n RR := by
  obtain ⟨g1, g2, g3, g4⟩ := G
  have hp := g1.1
  obtain ⟨a1, a2, -⟩ := vx_po hp
  refine ⟨vy_cp_fr g1 f ⟨hs.1.1, fun k => ?_⟩, (vx_fr_J f hs.1.2).trans g2, g3, fun r hr => vu_cr_fr (vx_rk hp (by omega)) (g4 r hr) f (fun a k h1 h2 => hs.2.2 a k (by omega) (by omega))⟩
  rw [a1, a2]
  exact hs.2.1 k
theorem vu_cg_4 (G : vu_cg h pi Pd n RR) (f : vx_fr (fun a _ => a = pi + 4) h h1) : vu_cg h1 pi Pd n RR := vu_cg_fr G f ⟨⟨by omega, by omega⟩, fun k => ⟨by omega, by omega⟩, fun a k _ _ => by omega⟩
theorem vu_cg_3 (G : vu_cg h pi Pd n RR) (f : vx_fr (fun a k => a = pi + 3 ∨ (a = pi ∧ k = 8)) h h1) : vu_cg h1 pi Pd n RR := vu_cg_fr G f ⟨⟨by omega, by omega⟩, fun k => ⟨by omega, by omega⟩, fun a k _ _ => by omega⟩
theorem vc_184 {o l : Nat} {L : vy_L} (ho : vx_o 1 625 7 o) (hT : vx_T 1 625 h) (C : vy_cl h o L) (hl : l < L.1) (hx : x = l) : vx_CI d 184 [.ref o, .int (vx_i x)] h (fun r h1 => h1 = h ∧ ((r = 1 ∧ vs_ak L l) ∨ (r = 0 ∧ ¬ vs_ak L l))) := by
  have l6 := C.2.1
  refine vg_184 ho hT ?_
  rw [show x.toNat = l by omega, (C.2.2 l hl).1]
  exact ⟨by omega, fun q => ⟨rfl, Or.inl ⟨rfl, Or.inl q⟩⟩, fun q => ⟨by omega, fun q2 => ⟨rfl, Or.inr ⟨rfl, fun t => t.elim q q2⟩⟩, fun q2 => ⟨rfl, Or.inl ⟨rfl, Or.inr q2⟩⟩⟩⟩
theorem vs_cm_or {w w' : Nat → Nat → Prop} {p : Nat} {v : Int} {f : Nat → Prop} (C : vs_cm g pi w) (hp : p < 16) (hv : 0 ≤ v ∧ v < 2147483648) (e : h1 = vx_sJ g (pi + 4) p (vx_or (vx_J g (pi + 4) p) v)) (hf : ∀ b, vb v b = true ↔ f b) (hw : ∀ a b, a < 16 → (w' a b ↔ (w a b ∨ (a = p ∧ f b)))) : vs_cm h1 pi w' := by
  intro a ha
  obtain ⟨c1, c2⟩ := C a ha
  have cp := C p hp
  have hr := vx_or_r cp.1 hv
  rw [e, vx_J_sJ (by omega)]
  by_cases q : a = p
  · rw [if_pos ⟨rfl, q⟩]
    refine ⟨hr, fun b => ?_⟩
    rw [vb_or cp.1 hv, Bool.or_eq_true, cp.2 b, hf b, hw a b ha, q]
    exact ⟨fun t => t.elim Or.inl (fun t => Or.inr ⟨rfl, t⟩), fun t => t.elim Or.inl (fun t => Or.inr t.2)⟩
  · rw [if_neg (fun t => q t.2)]
    refine ⟨c1, fun b => ?_⟩
    rw [c2 b, hw a b ha]
    exact ⟨Or.inl, fun t => t.elim id (fun t => absurd t.1 q)⟩
theorem vs_cm_iff {w w' : Nat → Nat → Prop} (C : vs_cm g pi w) (hw : ∀ a b, a < 16 → (w' a b ↔ w a b)) : vs_cm g pi w' := fun a ha => ⟨(C a ha).1, fun b => ((C a ha).2 b).trans (hw a b ha).symm⟩
theorem vs_cm_fr {w : Nat → Nat → Prop} {S : Nat → Nat → Prop} (C : vs_cm g pi w) (f : vx_fr S g h1) (hs : ∀ k, ¬ S (pi + 4) k) : vs_cm h1 pi w := fun a ha => by
  rw [vx_fr_J f (hs a)]; exact C a ha
theorem vc_139_20 {P : ve_H → Prop} {v1 : Int} (G : vu_cg h pi Pd n RR) (W : ∀ r, r < n → vu_wR Pd (RR r)) (hr : r < n) (hv : v1 = r)
    (X : ∀ g v2, vx_T 1 625 g → vx_fr (fun a _ => a = pi + 4) h g → vs_cm g pi (vs_up RR (r + 1) 0) → vx_W (d + 1) 139 10 [some (.ref pi), some (.int (vx_i (v1 + 1))), v2] [] g (vx_RV P)) :
    ∀ (m j : Nat) (g : ve_H) (z : Int), m = (RR r).2.2.2.2.1 - j → j ≤ (RR r).2.2.2.2.1 → z = j → vx_T 1 625 g → vx_fr (fun a _ => a = pi + 4) h g → vs_cm g pi (vs_up RR r j) → vx_W (d + 1) 139 20 [some (.ref pi), some (.int (vx_i v1)), some (.int (vx_i z))] [] g (vx_RV P) := by
  have hp := G.1.1
  have n30 := G.2.2.1
  have P16 := G.1.2.2.1
  have oR := vx_rk hp (show r < 31 by omega)
  obtain ⟨-, -, -, -, -, -, ⟨p, mm, w1, w2, -⟩, wL, -⟩ := W r hr
  have er : vx_r (vx_r pi 4) v1.toNat = pi + 10 + 9 * r := by rw [hv, Int.toNat_natCast, vx_ru hp (by omega)]
  have e3 := (vx_po hp).2.2.2.1
  have e9 := (vx_ro oR).2.2.1
  intro m
  induction m with
  | zero =>
    intro j g z hm hj hz hT f C
    have Cg := (vu_cg_4 G f).2.2.2 r hr
    have l6 := Cg.2.2.2.2.1.2.1
    refine vg_139_20 hp hT ?_
    rw [er, Cg.2.2.2.2.1.1]
    exact ⟨by omega, by omega, fun _ => X g _ hT f (vs_cm_iff C (fun a b _ => (vs_up_end (by omega)).symm)), fun q => absurd q (by omega)⟩
  | succ m ih =>
    intro j g z hm hj hz hT f C
    have Cg := (vu_cg_4 G f).2.2.2 r hr
    have hj2 : j < (RR r).2.2.2.2.1 := by omega
    have l6 := Cg.2.2.2.2.1.2.1
    refine vg_139_20 hp hT ?_
    rw [er, Cg.2.2.2.2.1.1]
    refine ⟨by omega, by omega, fun q => absurd q (by omega), fun _ => ⟨by omega, vx_CI_mono (vc_184 oR hT Cg.2.2.2.2.1 hj2 hz) ?_⟩⟩
    rintro r5 h5 _ ⟨rfl, ⟨rfl, q5⟩ | ⟨rfl, q5⟩⟩ T5
    · refine ⟨fun t => absurd t (by decide), fun _ => ?_⟩
      obtain ⟨p', m', v1', v2', -⟩ := (wL j hj2).2.1 q5
      rw [Cg.1, w1, Int.toNat_natCast, show z.toNat = j by omega, (Cg.2.2.2.2.1.2.2 j hj2).2.1, v1', e3]
      refine ⟨by omega, by omega, by omega, by omega, by omega, fun h12 e12 T12 => ?_⟩
      have f12 : vx_fr (fun a _ => a = pi + 4) h5 h12 := vx_fr_sJ vx_fr_refl e12 rfl
      refine ih (j + 1) h12 (z + 1) (by omega) (by omega) (by omega) T12 (vx_fr_trans f f12) (vs_cm_or (f := fun b => b = p') C (by omega) (vx_shl_r (by omega)) e12 (fun b => ?_) (fun a b _ => ?_))
      · rw [vb_shl (by omega), Int.toNat_natCast]
        exact ⟨fun t => (of_decide_eq_true t).symm, fun t => decide_eq_true t.symm⟩
      · rw [vs_up_add]
        constructor
        · rintro (t | ⟨-, -, t3, t4⟩)
          · exact Or.inl t
          · right; rw [w1] at t3; rw [v1'] at t4; omega
        · rintro (t | ⟨t1, t2⟩)
          · exact Or.inl t
          · right; exact ⟨hj2, q5, by rw [w1, t1], by rw [v1', t2]⟩
    · refine ⟨fun _ => ih (j + 1) h5 (z + 1) (by omega) (by omega) (by omega) T5 f (vs_cm_iff C (fun a b _ => ?_)), fun t => absurd rfl t⟩
      rw [vs_up_add]
      exact ⟨fun t => t.elim id (fun t => absurd t.2.1 q5), Or.inl⟩
theorem vc_139_10 {P : ve_H → Prop} (G : vu_cg h pi Pd n RR) (W : ∀ r, r < n → vu_wR Pd (RR r))
    (X : ∀ g v2, vx_T 1 625 g → vx_fr (fun a _ => a = pi + 4) h g → vs_cm g pi (vs_up RR n 0) → vx_W (d + 1) 139 90 [some (.ref pi), some (.int (vx_i 0)), v2] [] g (vx_RV P)) :
    ∀ (m r : Nat) (g : ve_H) (z : Int) (v2 : Option Value), m = n - r → r ≤ n → z = r → vx_T 1 625 g → vx_fr (fun a _ => a = pi + 4) h g → vs_cm g pi (vs_up RR r 0) → vx_W (d + 1) 139 10 [some (.ref pi), some (.int (vx_i z)), v2] [] g (vx_RV P) := by
  have hp := G.1.1
  have n30 := G.2.2.1
  intro m
  induction m with
  | zero =>
    intro r g z v2 hm hr hz hT f C
    refine vg_139_10 hp hT ?_
    rw [(vu_cg_4 G f).2.1]
    have e : r = n := by omega
    rw [e] at C
    exact ⟨by omega, fun _ => X g v2 hT f C, fun q => absurd q (by omega)⟩
  | succ m ih =>
    intro r g z v2 hm hr hz hT f C
    refine vg_139_10 hp hT ?_
    rw [(vu_cg_4 G f).2.1]
    exact ⟨by omega, fun q => absurd q (by omega), fun _ => vc_139_20 (r := r) G W (by omega) hz (fun g1 v2 T1 f1 C1 => ih (r + 1) g1 (z + 1) v2 (by omega) (by omega) (by omega) T1 f1 C1) _ 0 g 0 rfl (Nat.zero_le _) rfl hT f C⟩
def vs_mx (e : Nat → Nat → Bool) (by_ p a b : Nat) : Prop := (if a < p then vs_w e (by_ + 1) a b else vs_w e by_ a b) = true
theorem vc_139_100 {P : ve_H → Prop} {e : Nat → Nat → Bool} {by_ : Nat} {v1 : Int} (G : vu_cg h pi Pd n RR) (hb : by_ < Pd.1) (hv : v1 = by_)
    (X : ∀ g v2, vx_T 1 625 g → vx_fr (fun a _ => a = pi + 4) h g → vs_cm g pi (vs_mx e by_ Pd.1) → vx_W (d + 1) 139 90 [some (.ref pi), some (.int (vx_i (v1 + 1))), v2] [] g (vx_RV P)) :
    ∀ (m p : Nat) (g : ve_H) (z : Int), m = Pd.1 - p → p ≤ Pd.1 → z = p → vx_T 1 625 g → vx_fr (fun a _ => a = pi + 4) h g → vs_cm g pi (vs_mx e by_ p) → vx_W (d + 1) 139 100 [some (.ref pi), some (.int (vx_i v1)), some (.int (vx_i z))] [] g (vx_RV P) := by
  have hp := G.1.1
  have P16 := G.1.2.2.1
  have e3 := (vx_po hp).2.2.2.1
  intro m
  induction m with
  | zero =>
    intro p g z hm hpp hz hT f C
    refine vg_139_100 hp hT ?_
    rw [(vu_cg_4 G f).1.2.1]
    have ep : p = Pd.1 := by omega
    rw [ep] at C
    exact ⟨by omega, fun _ => X g _ hT f C, fun q => absurd q (by omega)⟩
  | succ m ih =>
    intro p g z hm hpp hz hT f C
    have hp16 : p < 16 := by omega
    have Cp := C p hp16
    have Cb := C by_ (by omega)
    have mp : ∀ b, vs_mx e by_ p p b ↔ vs_w e by_ p b = true := fun b => by unfold vs_mx; rw [if_neg (Nat.lt_irrefl _)]
    have mb : ∀ b, vs_mx e by_ p by_ b ↔ vs_w e by_ by_ b = true := fun b => by
      unfold vs_mx
      split
      · rw [vs_w_row]
      · exact Iff.rfl
    have mo : ∀ a b, a ≠ p → (vs_mx e by_ (p + 1) a b ↔ vs_mx e by_ p a b) := fun a b h => by
      unfold vs_mx
      by_cases q : a < p
      · rw [if_pos q, if_pos (by omega)]
      · rw [if_neg q, if_neg (by omega)]
    have ms : ∀ b, vs_mx e by_ (p + 1) p b ↔ (vs_w e by_ p b = true ∨ (vs_w e by_ p by_ = true ∧ vs_w e by_ by_ b = true)) := fun b => by
      unfold vs_mx
      rw [if_pos (by omega), vs_w_S, Bool.or_eq_true, Bool.and_eq_true]
    refine vg_139_100 hp hT ?_
    rw [(vu_cg_4 G f).1.2.1, show z.toNat = p by omega, show v1.toNat = by_ by omega, e3]
    refine ⟨by omega, fun q => absurd q (by omega), fun _ => ⟨by omega, fun q => ?_, fun q => ⟨by omega, by omega, by omega, fun h8 e8 T8 => ?_⟩⟩⟩
    · have nb := (vb_test Cp.1 (by omega)).mp q
      rw [show v1.toNat = by_ by omega] at nb
      refine ih (p + 1) g (z + 1) (by omega) (by omega) (by omega) hT f (vs_cm_iff C (fun a b _ => ?_))
      by_cases qa : a = p
      · rw [qa, ms, mp]
        refine ⟨fun t => t.elim id (fun t => ?_), Or.inl⟩
        have := (Cp.2 by_).mpr ((mp by_).mpr t.1)
        rw [this] at nb
        cases nb
      · exact mo a b qa
    · have yb : vb (vx_J g (pi + 4) p) by_ = true := by
        cases t : vb (vx_J g (pi + 4) p) by_ with
        | true => rfl
        | false => exact absurd ((vb_test Cp.1 (by omega)).mpr (by rw [show v1.toNat = by_ by omega]; exact t)) q
      have yw := (mp by_).mp ((Cp.2 by_).mp yb)
      have f8 : vx_fr (fun a _ => a = pi + 4) g h8 := vx_fr_sJ vx_fr_refl e8 rfl
      refine ih (p + 1) h8 (z + 1) (by omega) (by omega) (by omega) T8 (vx_fr_trans f f8) (vs_cm_or (f := fun b => vs_w e by_ by_ b = true) C hp16 Cb.1 e8 (fun b => (Cb.2 b).trans (mb b)) (fun a b _ => ?_))
      by_cases qa : a = p
      · rw [qa, ms, mp]
        exact ⟨fun t => t.elim Or.inl (fun t => Or.inr ⟨rfl, t.2⟩), fun t => t.elim Or.inl (fun t => Or.inr ⟨yw, t.2⟩)⟩
      · rw [mo a b qa]
        exact ⟨Or.inl, fun t => t.elim id (fun t => absurd t.1 qa)⟩
theorem vc_139_90 {e : Nat → Nat → Bool} (G : vu_cg h pi Pd n RR) (he : ∀ a b, e a b = true → a < Pd.1 ∧ b < Pd.1) :
    ∀ (m by_ : Nat) (g : ve_H) (z : Int) (v2 : Option Value), m = Pd.1 - by_ → by_ ≤ Pd.1 → z = by_ → vx_T 1 625 g → vx_fr (fun a _ => a = pi + 4) h g → vs_cm g pi (fun a b => vs_w e by_ a b = true) → vx_W (d + 1) 139 90 [some (.ref pi), some (.int (vx_i z)), v2] [] g (vx_RV (fun h1 => vx_fr (fun a _ => a = pi + 4) h h1 ∧ vs_cm h1 pi (fun a b => vs_w e Pd.1 a b = true))) := by
  have hp := G.1.1
  have P16 := G.1.2.2.1
  intro m
  induction m with
  | zero =>
    intro by_ g z v2 hm hb hz hT f C
    refine vg_139_90 hp hT ?_
    rw [(vu_cg_4 G f).1.2.1]
    have eb : by_ = Pd.1 := by omega
    rw [eb] at C
    exact ⟨by omega, fun _ => ⟨f, C⟩, fun q => absurd q (by omega)⟩
  | succ m ih =>
    intro by_ g z v2 hm hb hz hT f C
    refine vg_139_90 hp hT ?_
    rw [(vu_cg_4 G f).1.2.1]
    refine ⟨by omega, fun q => absurd q (by omega), fun _ => vc_139_100 (e := e) (by_ := by_) G (by omega) hz (fun g1 v2 T1 f1 C1 => ih (by_ + 1) g1 (z + 1) v2 (by omega) (by omega) (by omega) T1 f1 ?_) _ 0 g 0 rfl (Nat.zero_le _) rfl hT f (vs_cm_iff C (fun a b _ => ?_))⟩
    · refine vs_cm_iff C1 (fun a b _ => ?_)
      unfold vs_mx
      by_cases q : a < Pd.1
      · rw [if_pos q]
      · rw [if_neg q]
        exact ⟨fun t => absurd (vs_w_in he _ t).1 q, fun t => absurd (vs_w_in he _ t).1 q⟩
    · unfold vs_mx; rw [if_neg (Nat.not_lt_zero _)]
theorem vs_e_in (W : ∀ r, r < n → vu_wR Pd (RR r)) : ∀ a b, vs_e n RR a b = true → a < Pd.1 ∧ b < Pd.1 := by
  intro a b h
  obtain ⟨r, j, h0, h1, h2, h3, h4⟩ := vs_e_iff.mp h
  obtain ⟨-, -, -, -, -, -, ⟨p, m, w1, w2, -⟩, wL, -⟩ := W r (by omega)
  obtain ⟨p', m', v1, v2, -⟩ := (wL j h1).2.1 h2
  omega
theorem vc_139 (hT : vx_T 1 625 h) (G : vu_cg h pi Pd n RR) (W : ∀ r, r < n → vu_wR Pd (RR r)) : vx_CV (d + 1) 139 [.ref pi] h (fun h1 => vx_fr (fun a _ => a = pi + 4) h h1 ∧ vs_cm h1 pi (fun a b => vs_w (vs_e n RR) 16 a b = true)) := by
  have hp := G.1.1
  have P16 := G.1.2.2.1
  have oh := (vx_ho hp).1
  have he := vs_e_in W
  refine vg_139 hp hT ?_
  rw [(vx_po hp).2.2.2.1]
  refine vx_CV_mono (vc_217 (d := d) oh.1 hT (by decide : vx_rI 0)) ?_
  rintro h1 ⟨f1, z1⟩ T1
  rw [oh.2] at z1
  refine vc_139_10 G W (fun g v2 Tg fg Cg => ?_) n 0 h1 0 none rfl (Nat.zero_le _) rfl T1 f1 (fun p hp => ?_)
  · refine vx_mono (vc_139_90 (e := vs_e n RR) (h := h) G he Pd.1 0 g 0 v2 rfl (Nat.zero_le _) rfl Tg fg (vs_cm_iff Cg (fun a b _ => vs_e_iff))) ?_
    rintro o h2 ⟨rfl, g1, g2⟩
    refine ⟨rfl, g1, vs_cm_iff g2 (fun a b _ => ?_)⟩
    rw [show (16 : Nat) = Pd.1 + (16 - Pd.1) by omega, vs_w_end he]
  · rw [z1 p hp]
    refine ⟨by decide, fun b => ?_⟩
    rw [vb_0]
    refine ⟨fun t => absurd t (by decide), ?_⟩
    rintro ⟨r', j', h, -⟩
    omega
theorem vc_141 {w : Nat → Nat → Bool} {a b : Nat} (hp : vx_o 1 625 5 pi) (hT : vx_T 1 625 h) (C : vs_cm h pi (fun a b => w a b = true)) (hx : x = a) (hy : y = b) (ha : a < 16) (hb : b < 16) : vx_CI d 141 [.ref pi, .int (vx_i x), .int (vx_i y)] h (fun r h1 => h1 = h ∧ ((r = 1 ∧ (a = b ∨ w a b = true)) ∨ (r = 0 ∧ ¬ (a = b ∨ w a b = true)))) := by
  have Ca := C a ha
  have t := vb_test Ca.1 (show 0 ≤ y ∧ y ≤ 30 by omega)
  rw [show y.toNat = b by omega] at t
  refine vg_141 hp hT ?_
  rw [(vx_po hp).2.2.2.1, show x.toNat = a by omega]
  refine ⟨by omega, by omega, fun q => ⟨rfl, Or.inl ⟨rfl, Or.inl (by omega)⟩⟩, fun q => ⟨by omega, fun q2 => ⟨rfl, Or.inr ⟨rfl, ?_⟩⟩, fun q2 => ⟨rfl, Or.inl ⟨rfl, Or.inr ?_⟩⟩⟩⟩
  · rintro (z | z)
    · omega
    · have := (Ca.2 b).mpr z
      rw [t.mp q2] at this
      cases this
  · refine (Ca.2 b).mp ?_
    cases e : vb (vx_J h (pi + 4) a) b with
    | true => rfl
    | false => exact absurd (t.mpr e) q2
/-- literal l asks what comes back -/
theorem vc_141b {w : Nat → Nat → Bool} {l : Nat} {R : vu_R} (hp : vx_o 1 625 5 pi) (hT : vx_T 1 625 h) (P16 : Pd.1 ≤ 16) (C : vs_cm h pi (fun a b => w a b = true)) (W : vu_wR Pd R) (hl : l < R.2.2.2.2.1) (hk : vs_ak R.2.2.2.2 l) (hx : x = R.2.2.2.2.2.2.1 l) (hy : y = R.1) : vx_CI d 141 [.ref pi, .int (vx_i x), .int (vx_i y)] h (fun r h1 => h1 = h ∧ ((r = 1 ∧ vs_bk w R l) ∨ (r = 0 ∧ ¬ vs_bk w R l))) := by
  obtain ⟨-, -, -, -, -, -, ⟨p, m, w1, w2, -⟩, wL, -⟩ := W
  obtain ⟨p', m', v1, v2, -⟩ := (wL l hl).2.1 hk
  refine vx_CI_mono (vc_141 (a := p') (b := p) hp hT C (hx.trans v1) (hy.trans w1) (by omega) (by omega)) ?_
  rintro r h1 _ ⟨rfl, q⟩
  unfold vs_bk
  rw [v1, w1, Int.toNat_natCast, Int.toNat_natCast]
  refine ⟨rfl, ?_⟩
  rcases q with ⟨q1, q2⟩ | ⟨q1, q2⟩
  · exact Or.inl ⟨q1, q2.elim (fun t => Or.inl (by rw [t])) Or.inr⟩
  · exact Or.inr ⟨q1, fun t => q2 (t.elim (fun t => Or.inl (by omega)) Or.inr)⟩
theorem vc_140_73 {w : Nat → Nat → Bool} {P : Int → ve_H → Prop} {o : Nat} {v1 : Int} {R : vu_R} (hp : vx_o 1 625 5 pi) (P16 : Pd.1 ≤ 16) (hT : vx_T 1 625 h) (ho : vx_o 1 625 7 o) (Cr : vu_cr h o R) (W : vu_wR Pd R) (C : vs_cm h pi (fun a b => w a b = true)) (Y : ∀ x, vu_f (vs_hl w R) R.2.2.2.2.1 = some x → P x h) (N : vu_f (vs_hl w R) R.2.2.2.2.1 = none → ∀ v3, vx_W (d + 1) 140 2 [some (.ref pi), some (.int (vx_i (v1 + 1))), some (.ref o), v3] [] h (vx_RI P)) :
    ∀ (m l : Nat) (z : Int), m = R.2.2.2.2.1 - l → l ≤ R.2.2.2.2.1 → z = l → (∀ i, i < l → vs_hl w R i = none) → vx_W (d + 1) 140 73 [some (.ref pi), some (.int (vx_i v1)), some (.ref o), some (.int (vx_i z))] [] h (vx_RI P) := by
  have l6 := Cr.2.2.2.2.1.2.1
  intro m
  induction m with
  | zero =>
    intro l z hm hl hz A
    refine vg_140_73 hp ho hT ?_
    rw [Cr.2.2.2.2.1.1]
    exact ⟨by omega, fun _ => N (vu_f_none.mpr (fun i hi => A i (by omega))) _, fun q => absurd q (by omega)⟩
  | succ m ih =>
    intro l z hm hl hz A
    have hl2 : l < R.2.2.2.2.1 := by omega
    obtain ⟨c1, c2, c3, -⟩ := Cr.2.2.2.2.1.2.2 l hl2
    have ST : ∀ {t : vs_hl w R l = none}, ∀ i, i < l + 1 → vs_hl w R i = none := fun {t} i hi => by
      by_cases q : i = l
      · rw [q]; exact t
      · exact A i (by omega)
    refine vg_140_73 hp ho hT ?_
    rw [Cr.2.2.2.2.1.1, show z.toNat = l by omega, c1, c2, Cr.1]
    refine ⟨by omega, fun q => absurd q (by omega), fun _ => ⟨by omega, fun q => ih (l + 1) (z + 1) (by omega) (by omega) (by omega) (ST (t := vs_hl_f (fun t => q t.1))), fun q => ⟨by omega, vx_CI_mono (vc_141b hp hT P16 C W hl2 (Or.inr q) rfl rfl) ?_⟩⟩⟩
    rintro r6 h6 _ ⟨rfl, ⟨rfl, q6⟩ | ⟨rfl, q6⟩⟩ T6
    · refine ⟨fun t => absurd t (by decide), fun _ => ⟨by omega, ?_⟩⟩
      rw [c3]
      exact Y _ (vu_f_at A (vs_hl_t ⟨q, q6⟩) hl2)
    · exact ⟨fun _ => ih (l + 1) (z + 1) (by omega) (by omega) (by omega) (ST (t := vs_hl_f (fun t => q6 t.2))), fun t => absurd rfl t⟩
theorem vc_140_19 {w : Nat → Nat → Bool} {P : Int → ve_H → Prop} {o : Nat} {v1 : Int} {R : vu_R} (hp : vx_o 1 625 5 pi) (P16 : Pd.1 ≤ 16) (hT : vx_T 1 625 h) (ho : vx_o 1 625 7 o) (Cr : vu_cr h o R) (W : vu_wR Pd R) (C : vs_cm h pi (fun a b => w a b = true)) (Y : ∀ x, vs_hr w R = some x → P x h) (N : vs_hr w R = none → ∀ v3, vx_W (d + 1) 140 2 [some (.ref pi), some (.int (vx_i (v1 + 1))), some (.ref o), v3] [] h (vx_RI P)) :
    ∀ (m l : Nat) (z : Int), m = R.2.2.2.2.1 - l → l ≤ R.2.2.2.2.1 → z = l → (∀ i, i < l → vs_ht w R i = none) → vx_W (d + 1) 140 19 [some (.ref pi), some (.int (vx_i v1)), some (.ref o), some (.int (vx_i z))] [] h (vx_RI P) := by
  have l6 := Cr.2.2.2.2.1.2.1
  have GO : (∀ i, i < R.2.2.2.2.1 → vs_ht w R i = none) → vx_W (d + 1) 140 73 [some (.ref pi), some (.int (vx_i v1)), some (.ref o), some (.int (vx_i 0))] [] h (vx_RI P) := fun A =>
    vc_140_73 hp P16 hT ho Cr W C (fun x e => Y x (by rw [vs_hr_l A, e])) (fun e v3 => N (by rw [vs_hr_l A, e]) v3) _ 0 0 rfl (Nat.zero_le _) rfl (fun i hi => absurd hi (by omega))
  intro m
  induction m with
  | zero =>
    intro l z hm hl hz A
    refine vg_140_19 hp ho hT ?_
    rw [Cr.2.2.2.2.1.1]
    exact ⟨by omega, fun _ => GO (fun i hi => A i (by omega)), fun q => absurd q (by omega)⟩
  | succ m ih =>
    intro l z hm hl hz A
    have hl2 : l < R.2.2.2.2.1 := by omega
    obtain ⟨c1, c2, c3, -⟩ := Cr.2.2.2.2.1.2.2 l hl2
    have ST : ∀ {t : vs_ht w R l = none}, ∀ i, i < l + 1 → vs_ht w R i = none := fun {t} i hi => by
      by_cases q : i = l
      · rw [q]; exact t
      · exact A i (by omega)
    refine vg_140_19 hp ho hT ?_
    rw [Cr.2.2.2.2.1.1, Cr.2.2.1.1]
    refine ⟨by omega, fun q => absurd q (by omega), fun _ => ⟨fun q => GO (fun i _ => vs_ht_f (fun t => t.1 q)), fun q => vx_CI_mono (vc_184 ho hT Cr.2.2.2.2.1 hl2 hz) ?_⟩⟩
    rintro r4 h4 _ ⟨rfl, ⟨rfl, q4⟩ | ⟨rfl, q4⟩⟩ T4
    · refine ⟨fun t => absurd t (by decide), fun _ => ⟨by omega, ?_⟩⟩
      rw [show z.toNat = l by omega, c2, Cr.1]
      refine vx_CI_mono (vc_141b hp hT P16 C W hl2 q4 rfl rfl) ?_
      rintro r7 h7 _ ⟨rfl, ⟨rfl, q7⟩ | ⟨rfl, q7⟩⟩ T7
      · refine ⟨fun t => absurd t (by decide), fun _ => ?_⟩
        rw [(Cr.2.2.1.2 q).2]
        exact Y _ (vs_hr_t hl2 A (vs_ht_t ⟨q, q4, q7⟩))
      · exact ⟨fun _ => ih (l + 1) (z + 1) (by omega) (by omega) (by omega) (ST (t := vs_ht_f (fun t => q7 t.2.2))), fun t => absurd rfl t⟩
    · exact ⟨fun _ => ih (l + 1) (z + 1) (by omega) (by omega) (by omega) (ST (t := vs_ht_f (fun t => q4 t.2.1))), fun t => absurd rfl t⟩
theorem vc_140 {w : Nat → Nat → Bool} (hT : vx_T 1 625 h) (G : vu_cg h pi Pd n RR) (W : ∀ r, r < n → vu_wR Pd (RR r)) (C : vs_cm h pi (fun a b => w a b = true)) : vx_CI (d + 1) 140 [.ref pi] h (fun r h1 => h1 = h ∧ ((vs_hp w n RR = none ∧ r = -1) ∨ vs_hp w n RR = some r)) := by
  have hp := G.1.1
  have n30 := G.2.2.1
  refine vg_140 hp hT ?_
  have L : ∀ (m r : Nat) (z : Int) (v2 v3 : Option Value), m = n - r → r ≤ n → z = r → (∀ i, i < r → vs_hr w (RR i) = none) → vx_W (d + 1) 140 2 [some (.ref pi), some (.int (vx_i z)), v2, v3] [] h (vx_RI (fun r h1 => h1 = h ∧ ((vs_hp w n RR = none ∧ r = -1) ∨ vs_hp w n RR = some r))) := by
    intro m
    induction m with
    | zero =>
      intro r z v2 v3 hm hr hz A
      refine vg_140_2 hp hT ?_
      rw [G.2.1]
      exact ⟨by omega, fun _ => ⟨rfl, Or.inl ⟨vu_f_none.mpr (fun i hi => A i (by omega)), rfl⟩⟩, fun q => absurd q (by omega)⟩
    | succ m ih =>
      intro r z v2 v3 hm hr hz A
      refine vg_140_2 hp hT ?_
      rw [G.2.1, hz, Int.toNat_natCast, vx_ru hp (by omega)]
      refine ⟨by omega, fun q => absurd q (by omega), fun _ => ⟨by omega, ?_⟩⟩
      refine vc_140_19 hp G.1.2.2.1 hT (vx_rk hp (by omega)) (G.2.2.2 r (by omega)) (W r (by omega)) C (fun x e => ⟨rfl, Or.inr (vu_f_at A e (by omega))⟩) (fun e v3 => ih (r + 1) _ _ v3 (by omega) (by omega) (by omega) (fun i hi => ?_)) _ 0 0 rfl (Nat.zero_le _) rfl (fun i hi => absurd hi (by omega))
      by_cases q : i = r
      · rw [q]; exact e
      · exact A i (by omega)
  exact L n 0 0 none none rfl (Nat.zero_le _) rfl (fun i hi => absurd hi (by omega))
end
