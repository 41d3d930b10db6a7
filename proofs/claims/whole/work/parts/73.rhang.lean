/-! What hangs on its own absence: the reference -/
def vu_rg (h : ve_H) (sd : Nat) (Pd : vy_V) (n : Nat) (RR : Nat → vu_R) : Prop := vy_rp h sd Pd ∧ vx_J h 625 48 = sd ∧ vx_J h 635 sd = n ∧ n ≤ 30 ∧ ∀ r, r < n → vu_rr h (30 * sd + r) Pd (0, 0) (RR r)
def vs_rm (g : ve_H) (w : Nat → Nat → Prop) : Prop := ∀ a b, a < 16 → b < 16 → (vx_J g 663 (16 * a + b) = 0 ∨ vx_J g 663 (16 * a + b) = 1) ∧ (vx_J g 663 (16 * a + b) ≠ 0 ↔ w a b)
section
variable {d n m sd r c : Nat} {h h1 g : ve_H} {Pd : vy_V} {RR : Nat → vu_R} {x y : Int} {F : vy_F} {R : vu_R}
theorem vu_rg_fr {S : Nat → Nat → Prop} (G : vu_rg h sd Pd n RR) (f : vx_fr S h h1) (hs : ∀ a k, S a k → a = 663 ∨ a = 634 ∨ (a = 625 ∧ (k = 3 ∨ k = 4))) : vu_rg h1 sd Pd n RR := by
  have N : ∀ a k, a ≠ 663 → a ≠ 634 → a ≠ 625 → ¬ S a k := fun a k h1 h2 h3 t => (hs a k t).elim h1 (fun t => t.elim h2 (fun t => h3 t.1))
  obtain ⟨g1, g2, g3, g4, g5⟩ := G
  refine ⟨vy_rp_fr g1 f ⟨N _ _ (by decide) (by decide) (by decide), fun k _ _ => ⟨N _ _ (by decide) (by decide) (by decide), N _ _ (by decide) (by decide) (by decide)⟩⟩, (vx_fr_J f (fun t => by have := hs _ _ t; omega)).trans g2, (vx_fr_J f (N _ _ (by decide) (by decide) (by decide))).trans g3, g4, fun r hr => vu_rr_fr (g5 r hr) f (fun a ha => N _ _ (by omega) (by omega) (by omega)) (fun k _ _ => ⟨N _ _ (by decide) (by decide) (by decide), N _ _ (by decide) (by decide) (by decide)⟩) (fun k _ _ => ⟨N _ _ (by decide) (by decide) (by decide), N _ _ (by decide) (by decide) (by decide), N _ _ (by decide) (by decide) (by decide), N _ _ (by decide) (by decide) (by decide)⟩) (fun k _ _ => ⟨N _ _ (by decide) (by decide) (by decide), N _ _ (by decide) (by decide) (by decide)⟩)⟩
/-- what a rule's literal shows -/
theorem vu_rql (Cr : vu_rr h c Pd (0, 0) R) (W : vu_wR Pd R) {l : Nat} (hl : l < R.2.2.2.2.1) : (vx_J h 643 (6 * c + l) = 0 ↔ R.2.2.2.2.2.1 l = 14) ∧ (vx_J h 643 (6 * c + l) = 1 ↔ R.2.2.2.2.2.1 l = 15) ∧ vx_J h 660 (6 * c + l) = R.2.2.2.2.2.2.2.1 l ∧ (vs_ak R.2.2.2.2 l → vx_J h 644 (6 * c + l) = R.2.2.2.2.2.2.1 l) := by
  obtain ⟨q1, q2, m, -, -, -, q3, -⟩ := Cr.2.1.2.2 l hl
  refine ⟨?_, ?_, q1, fun t => ?_⟩
  · rw [q2]; unfold vy_rk
    split
    · rename_i t; exact ⟨fun _ => t, fun _ => rfl⟩
    split
    · rename_i t1 t2; exact ⟨fun t => absurd t (by decide), fun t => absurd t t1⟩
    split
    · rename_i t1 t2 t3; exact ⟨fun t => absurd t (by decide), fun t => absurd t t1⟩
    · rename_i t1 t2 t3; exact ⟨fun t => absurd t (by decide), fun t => absurd t t1⟩
  · rw [q2]; unfold vy_rk
    split
    · rename_i t1; exact ⟨fun t => absurd t (by decide), fun t => by omega⟩
    split
    · rename_i t1 t2; exact ⟨fun _ => t2, fun _ => rfl⟩
    split
    · rename_i t1 t2 t3; exact ⟨fun t => absurd t (by decide), fun t => absurd t t2⟩
    · rename_i t1 t2 t3; exact ⟨fun t => absurd t (by decide), fun t => absurd t t2⟩
  · obtain ⟨-, -, -, -, -, -, -, wL, -⟩ := W
    obtain ⟨p', m', v1, v2, -⟩ := (wL l hl).2.1 t
    have := (q3 t).2.2.1
    rw [if_neg (by omega)] at this
    exact this
theorem vc_56 {l : Nat} (hT : vx_T 625 672 h) (hc : c < 61) (Cr : vu_rr h c Pd (0, 0) R) (W : vu_wR Pd R) (hl : l < R.2.2.2.2.1) (hx : x = ((6 * c + l : Nat) : Int)) : vx_CI d 56 [.ref 625, .int (vx_i x)] h (fun r h1 => h1 = h ∧ ((r = 1 ∧ vs_ak R.2.2.2.2 l) ∨ (r = 0 ∧ ¬ vs_ak R.2.2.2.2 l))) := by
  have l6 := Cr.2.1.2.1
  obtain ⟨a1, a2, -⟩ := vu_rql Cr W hl
  refine vg_56 hT ?_
  rw [hx, Int.toNat_natCast]
  exact ⟨by omega, fun q => ⟨rfl, Or.inl ⟨rfl, Or.inl (a1.mp q)⟩⟩, fun q => ⟨by omega, fun q2 => ⟨rfl, Or.inr ⟨rfl, fun t => t.elim (fun t => q (a1.mpr t)) (fun t => q2 (a2.mpr t))⟩⟩, fun q2 => ⟨rfl, Or.inl ⟨rfl, Or.inr (a2.mp q2)⟩⟩⟩⟩
theorem vs_rm_iff {w w' : Nat → Nat → Prop} (C : vs_rm g w) (hw : ∀ a b, a < 16 → b < 16 → (w' a b ↔ w a b)) : vs_rm g w' := fun a b ha hb => ⟨(C a b ha hb).1, (C a b ha hb).2.trans (hw a b ha hb).symm⟩
theorem vs_rm_set {w w' : Nat → Nat → Prop} {p q : Nat} {v : Int} (C : vs_rm g w) (hp : p < 16) (hq : q < 16) (hv : v = 0 ∨ v = 1) (e : h1 = vx_sJ g 663 (16 * p + q) v) (hw1 : v ≠ 0 ↔ w' p q) (hw : ∀ a b, a < 16 → b < 16 → ¬ (a = p ∧ b = q) → (w' a b ↔ w a b)) : vs_rm h1 w' := by
  intro a b ha hb
  rw [e, vx_J_sJ (by omega)]
  by_cases t : a = p ∧ b = q
  · rw [if_pos ⟨rfl, by rw [t.1, t.2]⟩, t.1, t.2]
    exact ⟨hv, hw1⟩
  · rw [if_neg (fun u => t (by omega)), hw a b ha hb t]
    exact C a b ha hb
theorem vu_rg_m (G : vu_rg h sd Pd n RR) (f : vx_fr (fun a _ => a = 663) h h1) : vu_rg h1 sd Pd n RR := vu_rg_fr G f (fun a k t => Or.inl t)
theorem vc_57_56 {P : ve_H → Prop} {v1 : Int} (G : vu_rg h sd Pd n RR) (W : ∀ r, r < n → vu_wR Pd (RR r)) (hr : r < n) (hv : v1 = ((30 * sd + r : Nat) : Int))
    (X : ∀ g v2, vx_T 625 672 g → vx_fr (fun a _ => a = 663) h g → vs_rm g (vs_up RR (r + 1) 0) → vx_W (d + 1) 57 30 [some (.ref 625), some (.int (vx_i (v1 + 1))), v2, none] [] g (vx_RV P)) :
    ∀ (m j : Nat) (g : ve_H) (z : Int), m = (RR r).2.2.2.2.1 - j → j ≤ (RR r).2.2.2.2.1 → z = ((6 * (30 * sd + r) + j : Nat) : Int) → vx_T 625 672 g → vx_fr (fun a _ => a = 663) h g → vs_rm g (vs_up RR r j) → vx_W (d + 1) 57 56 [some (.ref 625), some (.int (vx_i v1)), some (.int (vx_i z)), none] [] g (vx_RV P) := by
  have n30 := G.2.2.2.1
  have sd2 := G.1.1
  have P16 := G.1.2.2.1
  obtain ⟨-, -, -, -, -, -, ⟨p, mm, w1, w2, -⟩, wL, -⟩ := W r hr
  intro m
  induction m with
  | zero =>
    intro j g z hm hj hz hT f C
    have Cg := (vu_rg_m G f).2.2.2.2 r hr
    have l6 := Cg.2.1.2.1
    refine vg_57_56 hT ?_
    rw [show v1.toNat = 30 * sd + r by omega, Cg.2.1.1]
    exact ⟨by omega, by omega, by omega, fun _ => X g _ hT f (vs_rm_iff C (fun a b _ _ => (vs_up_end (by omega)).symm)), fun q => absurd q (by omega)⟩
  | succ m ih =>
    intro j g z hm hj hz hT f C
    have Cg := (vu_rg_m G f).2.2.2.2 r hr
    have hj2 : j < (RR r).2.2.2.2.1 := by omega
    have l6 := Cg.2.1.2.1
    refine vg_57_56 hT ?_
    rw [show v1.toNat = 30 * sd + r by omega, Cg.2.1.1]
    refine ⟨by omega, by omega, by omega, fun q => absurd q (by omega), fun _ => vx_CI_mono (vc_56 hT (by omega) Cg (W r hr) hj2 hz) ?_⟩
    rintro r5 h5 _ ⟨rfl, ⟨rfl, q5⟩ | ⟨rfl, q5⟩⟩ T5
    · refine ⟨fun t => absurd t (by decide), fun _ => ?_⟩
      obtain ⟨p', m', v1', v2', -⟩ := (wL j hj2).2.1 q5
      rw [show z.toNat = 6 * (30 * sd + r) + j by omega, Cg.2.2.2.2.1, w1, (vu_rql Cg (W r hr) hj2).2.2.2 q5, v1', show (16 * ((p : Nat) : Int) + ((p' : Nat) : Int)).toNat = 16 * p + p' by omega]
      refine ⟨by omega, by omega, by omega, fun h10 e10 T10 => ?_⟩
      have f10 : vx_fr (fun a _ => a = 663) h5 h10 := vx_fr_sJ vx_fr_refl e10 rfl
      refine ih (j + 1) h10 (z + 1) (by omega) (by omega) (by omega) T10 (vx_fr_trans f f10) (vs_rm_set (p := p) (q := p') C (by omega) (by omega) (Or.inr rfl) e10 ⟨fun _ => vs_up_add.mpr (Or.inr ⟨hj2, q5, w1, v1'⟩), fun _ => by decide⟩ (fun a b _ _ t => ?_))
      rw [vs_up_add]
      refine ⟨fun u => u.elim id (fun u => absurd ?_ t), Or.inl⟩
      have u3 := u.2.2.1
      have u4 := u.2.2.2
      rw [w1] at u3
      rw [v1'] at u4
      omega
    · refine ⟨fun _ => ih (j + 1) h5 (z + 1) (by omega) (by omega) (by omega) T5 f (vs_rm_iff C (fun a b _ _ => ?_)), fun t => absurd rfl t⟩
      rw [vs_up_add]
      exact ⟨fun t => t.elim id (fun t => absurd t.2.1 q5), Or.inl⟩
theorem vc_57_30 {P : ve_H → Prop} (G : vu_rg h sd Pd n RR) (W : ∀ r, r < n → vu_wR Pd (RR r))
    (X : ∀ g v2, vx_T 625 672 g → vx_fr (fun a _ => a = 663) h g → vs_rm g (vs_up RR n 0) → vx_W (d + 1) 57 115 [some (.ref 625), some (.int (vx_i 0)), v2, none] [] g (vx_RV P)) :
    ∀ (m r : Nat) (g : ve_H) (z : Int) (v2 : Option Value), m = n - r → r ≤ n → z = ((30 * sd + r : Nat) : Int) → vx_T 625 672 g → vx_fr (fun a _ => a = 663) h g → vs_rm g (vs_up RR r 0) → vx_W (d + 1) 57 30 [some (.ref 625), some (.int (vx_i z)), v2, none] [] g (vx_RV P) := by
  have n30 := G.2.2.2.1
  have sd2 := G.1.1
  intro m
  induction m with
  | zero =>
    intro r g z v2 hm hr hz hT f C
    have Gg := vu_rg_m G f
    refine vg_57_30 hT ?_
    rw [Gg.2.1, Int.toNat_natCast, Gg.2.2.1]
    have e : r = n := by omega
    rw [e] at C
    exact ⟨by omega, by omega, by omega, fun _ => X g v2 hT f C, fun q => absurd q (by omega)⟩
  | succ m ih =>
    intro r g z v2 hm hr hz hT f C
    have Gg := vu_rg_m G f
    refine vg_57_30 hT ?_
    rw [Gg.2.1, Int.toNat_natCast, Gg.2.2.1]
    exact ⟨by omega, by omega, by omega, fun q => absurd q (by omega), fun _ => vc_57_56 (r := r) G W (by omega) hz (fun g1 v2 T1 f1 C1 => ih (r + 1) g1 (z + 1) v2 (by omega) (by omega) (by omega) T1 f1 C1) _ 0 g _ rfl (Nat.zero_le _) (by omega) hT f C⟩
def vs_mr (e : Nat → Nat → Bool) (k p q a b : Nat) : Prop := (if a < p ∨ (a = p ∧ b < q) then vs_w e (k + 1) a b else vs_w e k a b) = true
theorem vs_mr_col {e : Nat → Nat → Bool} {k p q a : Nat} : vs_mr e k p q a k ↔ vs_w e k a k = true := by
  unfold vs_mr; split
  · rw [vs_w_col]
  · exact Iff.rfl
theorem vs_mr_row {e : Nat → Nat → Bool} {k p q b : Nat} : vs_mr e k p q k b ↔ vs_w e k k b = true := by
  unfold vs_mr; split
  · rw [vs_w_row]
  · exact Iff.rfl
theorem vs_mr_new {e : Nat → Nat → Bool} {k p q : Nat} : vs_mr e k p (q + 1) p q ↔ (vs_mr e k p q p q ∨ (vs_w e k p k = true ∧ vs_w e k k q = true)) := by
  unfold vs_mr
  rw [if_pos (Or.inr ⟨rfl, by omega⟩), if_neg (by omega), vs_w_S, Bool.or_eq_true, Bool.and_eq_true]
theorem vs_mr_old {e : Nat → Nat → Bool} {k p q a b : Nat} (h : ¬ (a = p ∧ b = q)) : vs_mr e k p (q + 1) a b ↔ vs_mr e k p q a b := by
  unfold vs_mr
  by_cases t : a < p ∨ (a = p ∧ b < q)
  · rw [if_pos t, if_pos (by omega)]
  · rw [if_neg t, if_neg (by omega)]
theorem vc_57_131 {P : ve_H → Prop} {e : Nat → Nat → Bool} {k p : Nat} {v1 v2 : Int} (hk : k < 16) (hp : p < 16) (hv1 : v1 = k) (hv2 : v2 = p)
    (X : ∀ g v3, vx_T 625 672 g → vx_fr (fun a _ => a = 663) h g → vs_rm g (vs_mr e k (p + 1) 0) → vx_W (d + 1) 57 123 [some (.ref 625), some (.int (vx_i v1)), some (.int (vx_i (v2 + 1))), v3] [] g (vx_RV P)) :
    ∀ (m q : Nat) (g : ve_H) (z : Int), m = 16 - q → q ≤ 16 → z = q → vx_T 625 672 g → vx_fr (fun a _ => a = 663) h g → vs_rm g (vs_mr e k p q) → vx_W (d + 1) 57 131 [some (.ref 625), some (.int (vx_i v1)), some (.int (vx_i v2)), some (.int (vx_i z))] [] g (vx_RV P) := by
  intro m
  induction m with
  | zero =>
    intro q g z hm hq hz hT f C
    refine vg_57_131 hT ⟨by omega, fun _ => X g _ hT f (vs_rm_iff C (fun a b _ hb => ?_)), fun t => absurd t (by omega)⟩
    unfold vs_mr
    by_cases t : a < p ∨ (a = p ∧ b < q)
    · rw [if_pos t, if_pos (by omega)]
    · rw [if_neg t, if_neg (by omega)]
  | succ m ih =>
    intro q g z hm hq hz hT f C
    have q16 : q < 16 := by omega
    have Cq := C p q hp q16
    have Ck := C p k hp hk
    have Cr := C k q hk q16
    refine vg_57_131 hT ?_
    rw [show (16 * v2 + z).toNat = 16 * p + q by omega, show (16 * v2 + v1).toNat = 16 * p + k by omega, show (16 * v1 + z).toNat = 16 * k + q by omega]
    have or0 : vx_or (vx_J g 663 (16 * p + q)) 0 = vx_J g 663 (16 * p + q) := by
      rcases Cq.1 with t | t <;> rw [t] <;> decide
    have or1 : vx_or (vx_J g 663 (16 * p + q)) 1 = 1 := by
      rcases Cq.1 with t | t <;> rw [t] <;> decide
    have GO0 : ¬ (vs_w e k p k = true ∧ vs_w e k k q = true) → ∀ h8, h8 = vx_sJ g 663 (16 * p + q) (vx_J g 663 (16 * p + q)) → vx_T 625 672 h8 → vx_W (d + 1) 57 131 [some (.ref 625), some (.int (vx_i v1)), some (.int (vx_i v2)), some (.int (vx_i (z + 1)))] [] h8 (vx_RV P) := fun no h8 e8 T8 =>
      ih (q + 1) h8 (z + 1) (by omega) (by omega) (by omega) T8 (vx_fr_sJ f e8 rfl) (vs_rm_set C hp q16 Cq.1 e8 (by rw [Cq.2, vs_mr_new]; exact ⟨Or.inl, fun t => t.elim id (fun t => absurd t no)⟩) (fun a b _ _ t => vs_mr_old t))
    refine ⟨by omega, fun t => absurd t (by omega), fun _ => ⟨by omega, by omega, fun t1 => ?_, fun t1 => ⟨by omega, fun t2 => ?_, fun t2 => ?_⟩⟩⟩
    · rw [or0]
      exact ⟨by omega, Cq.1, GO0 (fun u => (Ck.2.mpr (vs_mr_col.mpr u.1)) t1)⟩
    · rw [or0]
      exact ⟨by omega, Cq.1, GO0 (fun u => (Cr.2.mpr (vs_mr_row.mpr u.2)) t2)⟩
    · rw [or1]
      refine ⟨by omega, Or.inr rfl, fun h16 e16 T16 => ih (q + 1) h16 (z + 1) (by omega) (by omega) (by omega) T16 (vx_fr_sJ f e16 rfl) (vs_rm_set C hp q16 (Or.inr rfl) e16 ?_ (fun a b _ _ t => vs_mr_old t))⟩
      rw [vs_mr_new]
      exact ⟨fun _ => Or.inr ⟨vs_mr_col.mp (Ck.2.mp t1), vs_mr_row.mp (Cr.2.mp t2)⟩, fun _ => by decide⟩
theorem vc_57_123 {P : ve_H → Prop} {e : Nat → Nat → Bool} {k : Nat} {v1 : Int} (hk : k < 16) (hv1 : v1 = k)
    (X : ∀ g v2 v3, vx_T 625 672 g → vx_fr (fun a _ => a = 663) h g → vs_rm g (fun a b => vs_w e (k + 1) a b = true) → vx_W (d + 1) 57 115 [some (.ref 625), some (.int (vx_i (v1 + 1))), v2, v3] [] g (vx_RV P)) :
    ∀ (m p : Nat) (g : ve_H) (z : Int) (v3 : Option Value), m = 16 - p → p ≤ 16 → z = p → vx_T 625 672 g → vx_fr (fun a _ => a = 663) h g → vs_rm g (vs_mr e k p 0) → vx_W (d + 1) 57 123 [some (.ref 625), some (.int (vx_i v1)), some (.int (vx_i z)), v3] [] g (vx_RV P) := by
  intro m
  induction m with
  | zero =>
    intro p g z v3 hm hp hz hT f C
    refine vg_57_123 hT ⟨by omega, fun _ => X g _ _ hT f (vs_rm_iff C (fun a b ha hb => ?_)), fun t => absurd t (by omega)⟩
    unfold vs_mr
    rw [if_pos (by omega)]
  | succ m ih =>
    intro p g z v3 hm hp hz hT f C
    exact vg_57_123 hT ⟨by omega, fun t => absurd t (by omega), fun _ => vc_57_131 (p := p) hk (by omega) hv1 hz (fun g1 v3 T1 f1 C1 => ih (p + 1) g1 (z + 1) v3 (by omega) (by omega) (by omega) T1 f1 C1) 16 0 g 0 rfl (by omega) rfl hT f C⟩
theorem vc_57_115 {e : Nat → Nat → Bool} : ∀ (m k : Nat) (g : ve_H) (z : Int) (v2 v3 : Option Value), m = 16 - k → k ≤ 16 → z = k → vx_T 625 672 g → vx_fr (fun a _ => a = 663) h g → vs_rm g (fun a b => vs_w e k a b = true) → vx_W (d + 1) 57 115 [some (.ref 625), some (.int (vx_i z)), v2, v3] [] g (vx_RV (fun h1 => vx_fr (fun a _ => a = 663) h h1 ∧ vs_rm h1 (fun a b => vs_w e 16 a b = true))) := by
  intro m
  induction m with
  | zero =>
    intro k g z v2 v3 hm hk hz hT f C
    have ek : k = 16 := by omega
    rw [ek] at C
    exact vg_57_115 hT ⟨by omega, fun _ => ⟨f, C⟩, fun t => absurd t (by omega)⟩
  | succ m ih =>
    intro k g z v2 v3 hm hk hz hT f C
    refine vg_57_115 hT ⟨by omega, fun t => absurd t (by omega), fun _ => vc_57_123 (k := k) (by omega) hz (fun g1 v2 v3 T1 f1 C1 => ih (k + 1) g1 (z + 1) v2 v3 (by omega) (by omega) (by omega) T1 f1 C1) 16 0 g 0 v3 rfl (by omega) rfl hT f (vs_rm_iff C (fun a b _ _ => ?_))⟩
    unfold vs_mr
    rw [if_neg (by omega)]
theorem vc_57 (hT : vx_T 625 672 h) (G : vu_rg h sd Pd n RR) (W : ∀ r, r < n → vu_wR Pd (RR r)) : vx_CV (d + 1) 57 [.ref 625] h (fun h1 => vx_fr (fun a _ => a = 663) h h1 ∧ vs_rm h1 (fun a b => vs_w (vs_e n RR) 16 a b = true)) := by
  have sd2 := G.1.1
  refine vg_57 hT ?_
  have Z : ∀ (m k : Nat) (g : ve_H) (z : Int), m = 256 - k → k ≤ 256 → z = k → vx_T 625 672 g → vx_fr (fun a _ => a = 663) h g → (∀ j, j < k → vx_J g 663 j = 0) → vx_W (d + 1) 57 2 [some (.ref 625), some (.int (vx_i z)), none, none] [] g (vx_RV (fun h1 => vx_fr (fun a _ => a = 663) h h1 ∧ vs_rm h1 (fun a b => vs_w (vs_e n RR) 16 a b = true))) := by
    intro m
    induction m with
    | zero =>
      intro k g z hm hk hz Tg f A
      refine vg_57_2 Tg ?_
      rw [(vu_rg_m G f).2.1]
      refine ⟨by omega, fun _ => vc_57_30 (h := h) G W (fun g1 v2 T1 f1 C1 => vc_57_115 (e := vs_e n RR) 16 0 g1 0 v2 none rfl (by omega) rfl T1 f1 (vs_rm_iff C1 (fun a b _ _ => vs_e_iff))) n 0 g _ none rfl (Nat.zero_le _) (by omega) Tg f (fun a b ha hb => ?_), fun t => absurd t (by omega)⟩
      rw [A _ (by omega)]
      refine ⟨Or.inl rfl, fun t => absurd rfl t, ?_⟩
      rintro ⟨r', j', h, -⟩
      omega
    | succ m ih =>
      intro k g z hm hk hz Tg f A
      refine vg_57_2 Tg ⟨by omega, fun t => absurd t (by omega), fun _ => ⟨by omega, fun h4 e4 T4 => ?_⟩⟩
      rw [show z.toNat = k by omega] at e4
      refine ih (k + 1) h4 (z + 1) (by omega) (by omega) (by omega) T4 (vx_fr_sJ f e4 rfl) (fun j hj => ?_)
      rw [e4, vx_J_sJ (by decide)]
      by_cases q : j = k
      · rw [if_pos ⟨rfl, q⟩]
      · rw [if_neg (fun t => q t.2)]; exact A j (by omega)
  exact Z 256 0 h 0 rfl (by omega) rfl hT vx_fr_refl (fun j hj => absurd hj (by omega))
theorem vc_58b {w : Nat → Nat → Bool} {l : Nat} (hT : vx_T 625 672 h) (P16 : Pd.1 ≤ 16) (C : vs_rm h (fun a b => w a b = true)) (W : vu_wR Pd R) (hl : l < R.2.2.2.2.1) (hk : vs_ak R.2.2.2.2 l) (hx : x = R.1) (hy : y = R.2.2.2.2.2.2.1 l) : vx_CI d 58 [.ref 625, .int (vx_i x), .int (vx_i y)] h (fun r h1 => h1 = h ∧ ((r = 1 ∧ vs_bk w R l) ∨ (r = 0 ∧ ¬ vs_bk w R l))) := by
  obtain ⟨w1, w0, w2⟩ := vu_wd P16 W
  obtain ⟨v1, v0⟩ := w2 l hl hk
  have Cx := C _ _ v1 w1
  unfold vs_bk
  refine vg_58 hT ?_
  rw [hx, hy, show (16 * R.2.2.2.2.2.2.1 l + R.1).toNat = 16 * (R.2.2.2.2.2.2.1 l).toNat + R.1.toNat by omega]
  refine ⟨by omega, by omega, fun q => ⟨rfl, Or.inl ⟨rfl, Or.inl q.symm⟩⟩, fun q => ⟨by omega, fun q2 => ⟨rfl, Or.inr ⟨rfl, ?_⟩⟩, fun q2 => ⟨rfl, Or.inl ⟨rfl, Or.inr (Cx.2.mp q2)⟩⟩⟩⟩
  rintro (t | t)
  · exact q t.symm
  · exact (Cx.2.mpr t) q2
end
