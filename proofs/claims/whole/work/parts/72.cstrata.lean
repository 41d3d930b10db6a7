/-! Strata: the class -/
def vs_ab (R : vu_R) (j : Nat) : Nat := if R.2.2.2.2.2.1 j = 15 ∨ R.2.2.1.1 ≠ -1 then 1 else 0
/-- what a rule's head needs, by its first literals -/
noncomputable def vs_lv (s : Nat → Nat) (R : vu_R) : Nat → Nat
  | 0 => s R.1.toNat
  | l + 1 => @ite _ (vs_ak R.2.2.2.2 l) (Classical.propDecidable _) (max (vs_lv s R l) (s (R.2.2.2.2.2.2.1 l).toNat + vs_ab R l)) (vs_lv s R l)
noncomputable def vs_st (s : Nat → Nat) (R : vu_R) : Nat → Nat := fun p => if p = R.1.toNat then vs_lv s R R.2.2.2.2.1 else s p
def vs_ns (s : Nat → Nat) : Nat → Nat
  | 0 => 0
  | k + 1 => max (vs_ns s k) (s k + 1)
def vs_cs (g : ve_H) (pi : Nat) (s : Nat → Nat) : Prop := ∀ p, p < 16 → vx_J g (pi + 3) p = s p
section
variable {s t : Nat → Nat} {R : vu_R} {l j n : Nat} {RR : Nat → vu_R} {Pd : vy_V}
theorem vs_lv_t (h : vs_ak R.2.2.2.2 l) : vs_lv s R (l + 1) = max (vs_lv s R l) (s (R.2.2.2.2.2.2.1 l).toNat + vs_ab R l) := by
  show @ite _ (vs_ak R.2.2.2.2 l) (Classical.propDecidable _) _ _ = _
  exact if_pos h
theorem vs_lv_f (h : ¬ vs_ak R.2.2.2.2 l) : vs_lv s R (l + 1) = vs_lv s R l := by
  show @ite _ (vs_ak R.2.2.2.2 l) (Classical.propDecidable _) _ _ = _
  exact if_neg h
theorem vs_lv_ge : ∀ l, s R.1.toNat ≤ vs_lv s R l
  | 0 => Nat.le_refl _
  | l + 1 => by
    have := vs_lv_ge l
    by_cases q : vs_ak R.2.2.2.2 l
    · rw [vs_lv_t q]; omega
    · rw [vs_lv_f q]; exact this
theorem vs_lv_ne : ∀ l j, j < l → vs_ak R.2.2.2.2 j → s (R.2.2.2.2.2.2.1 j).toNat + vs_ab R j ≤ vs_lv s R l
  | 0, j, h, _ => absurd h (by omega)
  | l + 1, j, h, hk => by
    by_cases e : j = l
    · subst e
      rw [vs_lv_t hk]; omega
    · have := vs_lv_ne l j (by omega) hk
      by_cases q : vs_ak R.2.2.2.2 l
      · rw [vs_lv_t q]; omega
      · rw [vs_lv_f q]; exact this
theorem vs_lv_le {b : Nat} (h0 : s R.1.toNat ≤ b) : ∀ l, (∀ j, j < l → vs_ak R.2.2.2.2 j → s (R.2.2.2.2.2.2.1 j).toNat + vs_ab R j ≤ b) → vs_lv s R l ≤ b
  | 0, _ => h0
  | l + 1, h => by
    have := vs_lv_le h0 l (fun j hj => h j (by omega))
    by_cases q : vs_ak R.2.2.2.2 l
    · have := h l (by omega) q
      rw [vs_lv_t q]; omega
    · rw [vs_lv_f q]; exact this
theorem vs_st_ge (p : Nat) : s p ≤ vs_st s R p := by
  unfold vs_st
  split
  · rename_i q
    rw [q]; exact vs_lv_ge _
  · exact Nat.le_refl _
/-- head and details are predicates -/
theorem vu_wd (P16 : Pd.1 ≤ 16) (W : vu_wR Pd R) : R.1.toNat < 16 ∧ 0 ≤ R.1 ∧ ∀ j, j < R.2.2.2.2.1 → vs_ak R.2.2.2.2 j → (R.2.2.2.2.2.2.1 j).toNat < 16 ∧ 0 ≤ R.2.2.2.2.2.2.1 j := by
  obtain ⟨-, -, -, -, -, -, ⟨p, m, w1, w2, -⟩, wL, -⟩ := W
  refine ⟨by omega, by omega, fun j hj hk => ?_⟩
  obtain ⟨p', m', v1, v2, -⟩ := (wL j hj).2.1 hk
  omega
theorem vs_st_le (P16 : Pd.1 ≤ 16) (W : vu_wR Pd R) (hs : vs_le s t) (hk : ∀ j, j < R.2.2.2.2.1 → vs_kj t R j) : vs_le (vs_st s R) t := by
  obtain ⟨w1, -, w2⟩ := vu_wd P16 W
  intro p hp
  unfold vs_st
  split
  · rename_i q
    rw [q]
    refine vs_lv_le (hs _ w1) _ (fun j hj ha => ?_)
    have := hk j hj ha
    have := hs _ (w2 j hj ha).1
    unfold vs_ab
    omega
  · exact hs p hp
theorem vs_st_kj (h : vs_lv s R R.2.2.2.2.1 = s R.1.toNat) : ∀ j, j < R.2.2.2.2.1 → vs_kj s R j := by
  intro j hj ha
  have := vs_lv_ne (s := s) _ j hj ha
  rw [h] at this
  exact this
theorem vs_st_eq (h : vs_lv s R R.2.2.2.2.1 = s R.1.toNat) (p : Nat) : vs_st s R p = s p := by
  unfold vs_st
  split
  · rename_i q; rw [q, h]
  · rfl
theorem vs_lst_eq (a : vs_lst s n RR) (b : vs_lst t n RR) : ∀ p, p < 16 → s p = t p := fun p hp => Nat.le_antisymm (a.2 t b.1 p hp) (b.2 s a.1 p hp)
theorem vs_kp_congr (P16 : Pd.1 ≤ 16) (W : ∀ r, r < n → vu_wR Pd (RR r)) (h : ∀ p, p < 16 → s p = t p) (k : vs_kp s n RR) : vs_kp t n RR := by
  intro r hr j hj ha
  obtain ⟨w1, -, w2⟩ := vu_wd P16 (W r hr)
  have := k r hr j hj ha
  rw [← h _ w1, ← h _ (w2 j hj ha).1]
  exact this
end
section
variable {d n m pi r o : Nat} {h h1 g : ve_H} {Pd : vy_V} {RR : Nat → vu_R} {x y : Int} {s : Nat → Nat} {R : vu_R}
theorem vc_219 (hT : vx_T 1 625 h) (hx : vx_rI x) (hy : vx_rI y) : vx_CI d 219 [.int (vx_i x), .int (vx_i y)] h (fun r h1 => h1 = h ∧ r = max x y) :=
  vg_219 hT ⟨hx, hy, fun q => ⟨rfl, by omega⟩, fun q => ⟨rfl, by omega⟩⟩
theorem vc_143_12 (hp : vx_o 1 625 5 pi) (P16 : Pd.1 ≤ 16) (ho : vx_o 1 625 7 o) (Cr : vu_cr h o R) (W : vu_wR Pd R) (hT : vx_T 1 625 h) (C : vs_cs h pi s) (hs : ∀ p, p < 16 → s p ≤ 1000) (no : o < pi + 3 ∨ pi + 3 < o) : ∀ (m l : Nat) (z v : Int) (v4 : Option Value), m = R.2.2.2.2.1 - l → l ≤ R.2.2.2.2.1 → z = l → v = (vs_lv s R l : Nat) → vx_W (d + 1) 143 12 [some (.ref pi), some (.ref o), some (.int (vx_i v)), some (.int (vx_i z)), v4] [] h (vx_RI (fun r h1 => vx_fr (fun a _ => a = pi + 3) h h1 ∧ vs_cs h1 pi (vs_st s R) ∧ ((r = 0 ∧ vs_lv s R R.2.2.2.2.1 = s R.1.toNat) ∨ (r = 1 ∧ s R.1.toNat < vs_lv s R R.2.2.2.2.1)))) := by
  have l6 := Cr.2.2.2.2.1.2.1
  obtain ⟨w1, w0, w2⟩ := vu_wd P16 W
  have e2 := (vx_po hp).2.2.1
  have B : ∀ l, l ≤ R.2.2.2.2.1 → vs_lv s R l ≤ 1001 := fun l hl => vs_lv_le (by have := hs _ w1; omega) l (fun j hj ha => by
    have := hs _ (w2 j (by omega) ha).1
    have : vs_ab R j ≤ 1 := by unfold vs_ab; split <;> omega
    omega)
  intro m
  induction m with
  | zero =>
    intro l z v v4 hm hl hz hv
    have el : l = R.2.2.2.2.1 := by omega
    have bl := B l hl
    refine vg_143_12 hp ho hT ?_
    rw [Cr.2.2.2.2.1.1, Cr.1, e2, C _ w1]
    have PUT : ∀ h7 : ve_H, h7 = vx_sJ h (pi + 3) R.1.toNat v → vx_fr (fun a _ => a = pi + 3) h h7 ∧ vs_cs h7 pi (vs_st s R) := by
      intro h7 e7
      refine ⟨vx_fr_sJ vx_fr_refl e7 rfl, fun p hp => ?_⟩
      rw [e7, vx_J_sJ (by omega)]
      unfold vs_st
      by_cases q : p = R.1.toNat
      · rw [if_pos ⟨rfl, q⟩, if_pos q, hv, el]
      · rw [if_neg (fun t => q t.2), if_neg q]; exact C p hp
    have ge := vs_lv_ge (s := s) (R := R) l
    refine ⟨by omega, fun _ => ⟨by omega, by omega, fun q => ⟨by omega, fun h7 e7 T7 => ?_⟩, fun q => ⟨by omega, fun h9 e9 T9 => ?_⟩⟩, fun q => absurd q (by omega)⟩
    · exact ⟨(PUT h7 e7).1, (PUT h7 e7).2, Or.inl ⟨rfl, by rw [← el]; omega⟩⟩
    · exact ⟨(PUT h9 e9).1, (PUT h9 e9).2, Or.inr ⟨rfl, by rw [← el]; omega⟩⟩
  | succ m ih =>
    intro l z v v4 hm hl hz hv
    have hl2 : l < R.2.2.2.2.1 := by omega
    have bl := B l hl
    obtain ⟨c1, c2, c3, -⟩ := Cr.2.2.2.2.1.2.2 l hl2
    refine vg_143_12 hp ho hT ?_
    rw [Cr.2.2.2.2.1.1]
    refine ⟨by omega, fun q => absurd q (by omega), fun _ => vx_CI_mono (vc_184 ho hT Cr.2.2.2.2.1 hl2 hz) ?_⟩
    rintro r10 h10 _ ⟨rfl, ⟨rfl, q10⟩ | ⟨rfl, q10⟩⟩ T10
    · refine ⟨fun t => absurd t (by decide), fun _ => ?_⟩
      obtain ⟨x1, x2⟩ := w2 l hl2 q10
      have sx := hs _ x1
      rw [show z.toNat = l by omega, c1, c2, Cr.2.2.1.1, e2, C _ x1]
      have ST : ∀ (k : Nat), vs_ab R l = k → k ≤ 1 → ∀ v4, vx_CI d 219 [.int (vx_i v), .int (vx_i (((s (R.2.2.2.2.2.2.1 l).toNat : Nat) : Int) + (k : Nat)))] h10 (fun r16 h16 => vx_T 1 625 h16 → vx_W (d + 1) 143 12 [some (.ref pi), some (.ref o), some (.int (vx_i r16)), some (.int (vx_i (z + 1))), v4] [] h16 (vx_RI (fun r h1 => vx_fr (fun a _ => a = pi + 3) h10 h1 ∧ vs_cs h1 pi (vs_st s R) ∧ ((r = 0 ∧ vs_lv s R R.2.2.2.2.1 = s R.1.toNat) ∨ (r = 1 ∧ s R.1.toNat < vs_lv s R R.2.2.2.2.1))))) := by
        intro k hk hk1 v4
        refine vx_CI_mono (vc_219 hT (by omega) (by omega)) ?_
        rintro r16 h16 _ ⟨rfl, e16⟩ T16
        refine ih (l + 1) (z + 1) r16 v4 (by omega) (by omega) (by omega) ?_
        rw [vs_lv_t q10, e16, hk, hv]
        omega
      refine ⟨by omega, fun q => ⟨by omega, by omega, ST 1 (by unfold vs_ab; rw [if_pos (Or.inl q)]) (by omega) _⟩, fun q => ⟨fun q2 => ⟨by omega, by omega, ST 0 (by unfold vs_ab; rw [if_neg (fun t => t.elim q (fun t => t q2))]) (by omega) _⟩, fun q2 => ⟨by omega, by omega, ST 1 (by unfold vs_ab; rw [if_pos (Or.inr q2)]) (by omega) _⟩⟩⟩
    · exact ⟨fun _ => ih (l + 1) (z + 1) v v4 (by omega) (by omega) (by omega) (by rw [vs_lv_f q10]; exact hv), fun t => absurd rfl t⟩
theorem vc_143 (hp : vx_o 1 625 5 pi) (P16 : Pd.1 ≤ 16) (ho : vx_o 1 625 7 o) (Cr : vu_cr h o R) (W : vu_wR Pd R) (hT : vx_T 1 625 h) (C : vs_cs h pi s) (hs : ∀ p, p < 16 → s p ≤ 1000) (no : o < pi + 3 ∨ pi + 3 < o) : vx_CI (d + 1) 143 [.ref pi, .ref o] h (fun r h1 => vx_fr (fun a _ => a = pi + 3) h h1 ∧ vs_cs h1 pi (vs_st s R) ∧ ((r = 0 ∧ vs_lv s R R.2.2.2.2.1 = s R.1.toNat) ∨ (r = 1 ∧ s R.1.toNat < vs_lv s R R.2.2.2.2.1))) := by
  obtain ⟨w1, w0, w2⟩ := vu_wd P16 W
  refine vg_143 hp ho hT ?_
  rw [Cr.1, (vx_po hp).2.2.1, C _ w1]
  exact ⟨by omega, vc_143_12 hp P16 ho Cr W hT C hs no _ 0 0 _ none rfl (Nat.zero_le _) rfl rfl⟩
/-- one pass over the rules -/
theorem vc_142_21 {P : ve_H → Prop} {t0 s0 : Nat → Nat} {v1 : Int} (G : vu_cg h pi Pd n RR) (W : ∀ r, r < n → vu_wR Pd (RR r)) (t16 : ∀ p, t0 p ≤ 16) (tk : vs_kp t0 n RR)
    (A : ∀ g s v3, vx_T 1 625 g → vx_fr (fun a k => a = pi + 3 ∨ (a = pi ∧ k = 8)) h g → vs_cs g pi s → (∀ t, vs_kp t n RR → vs_le s t) → vs_sum s0 16 < vs_sum s 16 → vx_W (d + 1 + 1) 142 10 [some (.ref pi), some (.int (vx_i (v1 + 1))), some (.int (vx_i 1)), v3] [] g (vx_RV P))
    (B : ∀ g s v2 v3, vx_T 1 625 g → vx_fr (fun a k => a = pi + 3 ∨ (a = pi ∧ k = 8)) h g → vs_cs g pi s → vs_lst s n RR → ∀ h5, h5 = vx_sJ g pi 8 0 → vx_T 1 625 h5 → vx_W (d + 1 + 1) 142 68 [some (.ref pi), some (.int (vx_i 0)), v2, v3] [] h5 (vx_RV P)) :
    ∀ (m r : Nat) (g : ve_H) (s : Nat → Nat) (z v2 : Int), m = n - r → r ≤ n → z = r → vx_T 1 625 g → vx_fr (fun a k => a = pi + 3 ∨ (a = pi ∧ k = 8)) h g → vs_cs g pi s → (∀ t, vs_kp t n RR → vs_le s t) → ((v2 = 0 ∧ (∀ r', r' < r → ∀ j, j < (RR r').2.2.2.2.1 → vs_kj s (RR r') j) ∧ s = s0) ∨ (v2 = 1 ∧ vs_sum s0 16 < vs_sum s 16)) → vx_W (d + 1 + 1) 142 21 [some (.ref pi), some (.int (vx_i v1)), some (.int (vx_i v2)), some (.int (vx_i z))] [] g (vx_RV P) := by
  have hp := G.1.1
  have n30 := G.2.2.1
  have P16 := G.1.2.2.1
  intro m
  induction m with
  | zero =>
    intro r g s z v2 hm hr hz hT f C L Q
    have er : r = n := by omega
    refine vg_142_21 hp hT ?_
    rw [(vu_cg_3 G f).2.1]
    refine ⟨by omega, fun _ => ⟨by omega, fun q => ?_, fun q => ?_⟩, fun q => absurd q (by omega)⟩
    · rcases Q with ⟨rfl, -⟩ | ⟨rfl, Q⟩
      · exact absurd rfl q
      · exact A g s _ hT f C L Q
    · rcases Q with ⟨rfl, Q, -⟩ | ⟨rfl, -⟩
      · exact B g s _ _ hT f C ⟨fun r' hr' => Q r' (by omega), L⟩
      · exact absurd q (by decide)
  | succ m ih =>
    intro r g s z v2 hm hr hz hT f C L Q
    have hrn : r < n := by omega
    have Gg := vu_cg_3 G f
    refine vg_142_21 hp hT ?_
    rw [Gg.2.1, hz, Int.toNat_natCast, vx_ru hp (by omega)]
    have sb : ∀ p, p < 16 → s p ≤ 1000 := fun p hp => by have := L t0 tk p hp; have := t16 p; omega
    refine ⟨by omega, fun q => absurd q (by omega), fun _ => ⟨by omega, vx_CI_mono (vc_143 (d := d) hp P16 (vx_rk hp (by omega)) (Gg.2.2.2 r hrn) (W r hrn) hT C sb (by omega)) ?_⟩⟩
    rintro r7 h7 _ ⟨f7, C7, Q7⟩ T7
    have f7' : vx_fr (fun a k => a = pi + 3 ∨ (a = pi ∧ k = 8)) h h7 := vx_fr_trans f (vx_fr_mono f7 (fun a k q => Or.inl q))
    have L7 : ∀ t, vs_kp t n RR → vs_le (vs_st s (RR r)) t := fun t ht => vs_st_le P16 (W r hrn) (L t ht) (ht r hrn)
    have sl := vs_sum_le (s := s) (t := vs_st s (RR r)) 16 (fun p _ => vs_st_ge p)
    have or1 : vx_or v2 r7 = 0 ∧ v2 = 0 ∧ r7 = 0 ∨ vx_or v2 r7 = 1 ∧ (v2 = 1 ∨ r7 = 1) := by
      rcases Q with ⟨rfl, -⟩ | ⟨rfl, -⟩ <;> rcases Q7 with ⟨rfl, -⟩ | ⟨rfl, -⟩ <;> decide
    refine ih (r + 1) h7 (vs_st s (RR r)) _ (vx_or v2 r7) (by omega) (by omega) (by omega) T7 f7' C7 L7 ?_
    rcases or1 with ⟨o1, o2, o3⟩ | ⟨o1, o2⟩
    · left
      rcases Q7 with ⟨-, q7⟩ | ⟨q7, -⟩
      · rcases Q with ⟨-, Q, Q'⟩ | ⟨q, -⟩
        · have es : vs_st s (RR r) = s := funext (vs_st_eq q7)
          rw [es]
          refine ⟨o1, fun r' hr' => ?_, Q'⟩
          by_cases q : r' = r
          · rw [q]; exact vs_st_kj q7
          · exact Q r' (by omega)
        · omega
      · omega
    · right
      refine ⟨o1, ?_⟩
      rcases Q7 with ⟨q7, -⟩ | ⟨-, q7⟩
      · rcases Q with ⟨q, -⟩ | ⟨-, Q⟩
        · omega
        · omega
      · have : vs_sum s 16 < vs_sum (vs_st s (RR r)) 16 := vs_sum_lt (x := (RR r).1.toNat) 16 (fun p _ => vs_st_ge p) (vu_wd P16 (W r hrn)).1 (by unfold vs_st; rw [if_pos rfl]; exact q7)
        rcases Q with ⟨-, -, Q⟩ | ⟨-, Q⟩
        · rw [← Q]; exact this
        · omega
/-- how many strata -/
theorem vc_142_68 {s : Nat → Nat} (G : vu_cg h pi Pd n RR) (hs : ∀ p, p < 16 → s p ≤ 16) : ∀ (m p : Nat) (g : ve_H) (z : Int) (v2 v3 : Option Value), m = Pd.1 - p → p ≤ Pd.1 → z = p → vx_T 1 625 g → vx_fr (fun a k => a = pi + 3 ∨ (a = pi ∧ k = 8)) h g → vs_cs g pi s → vx_J g pi 8 = (vs_ns s p : Nat) → vs_ns s p ≤ 17 → vx_W (d + 1 + 1) 142 68 [some (.ref pi), some (.int (vx_i z)), v2, v3] [] g (vx_RV (fun h1 => vx_fr (fun a k => a = pi + 3 ∨ (a = pi ∧ k = 8)) h h1 ∧ vs_cs h1 pi s ∧ vx_J h1 pi 8 = (vs_ns s Pd.1 : Nat))) := by
  have hp := G.1.1
  have P16 := G.1.2.2.1
  intro m
  induction m with
  | zero =>
    intro p g z v2 v3 hm hpp hz hT f C e8 b8
    refine vg_142_68 hp hT ?_
    rw [(vu_cg_3 G f).1.2.1]
    have ep : p = Pd.1 := by omega
    rw [ep] at e8
    exact ⟨by omega, fun _ => ⟨f, C, e8⟩, fun q => absurd q (by omega)⟩
  | succ m ih =>
    intro p g z v2 v3 hm hpp hz hT f C e8 b8
    have sp := hs p (by omega)
    refine vg_142_68 hp hT ?_
    rw [(vu_cg_3 G f).1.2.1, show z.toNat = p by omega, (vx_po hp).2.2.1, C p (by omega), e8]
    refine ⟨by omega, fun q => absurd q (by omega), fun _ => ⟨by omega, vx_CI_mono (vc_219 hT (by omega) (by omega)) ?_⟩⟩
    rintro r4 h4 _ ⟨rfl, e4⟩ T4 h5 e5 T5
    have f5 : vx_fr (fun a k => a = pi ∧ k = 8) h4 h5 := vx_fr_sJ vx_fr_refl e5 ⟨rfl, rfl⟩
    refine ih (p + 1) h5 (z + 1) v2 v3 (by omega) (by omega) (by omega) T5 (vx_fr_trans f (vx_fr_mono f5 (fun a k q => Or.inr q))) (fun p hp => (vx_fr_J f5 (by omega)).trans (C p hp)) ?_ ?_
    · rw [e5, vx_J_eq (by omega), e4]
      show max ((vs_ns s p : Nat) : Int) ((s p : Nat) + 1) = ((max (vs_ns s p) (s p + 1) : Nat) : Int)
      omega
    · show max (vs_ns s p) (s p + 1) ≤ 17
      omega
theorem vc_142 (hT : vx_T 1 625 h) (G : vu_cg h pi Pd n RR) (W : ∀ r, r < n → vu_wR Pd (RR r)) (no : vs_hp (vs_w (vs_e n RR) 16) n RR = none) : vx_CV (d + 1 + 1) 142 [.ref pi] h (fun h1 => vx_fr (fun a k => a = pi + 3 ∨ (a = pi ∧ k = 8)) h h1 ∧ ∃ s, vs_lst s n RR ∧ (∀ p, p < 16 → s p ≤ 16) ∧ vs_cs h1 pi s ∧ vx_J h1 pi 8 = (vs_ns s Pd.1 : Nat)) := by
  have hp := G.1.1
  have P16 := G.1.2.2.1
  obtain ⟨t0, t16, tk⟩ := vs_ex P16 W no
  have oh := (vx_ho hp).2
  have E : ∀ g s v2 v3, vx_T 1 625 g → vx_fr (fun a k => a = pi + 3 ∨ (a = pi ∧ k = 8)) h g → vs_cs g pi s → vs_lst s n RR → ∀ h5, h5 = vx_sJ g pi 8 0 → vx_T 1 625 h5 → vx_W (d + 1 + 1) 142 68 [some (.ref pi), some (.int (vx_i 0)), v2, v3] [] h5 (vx_RV (fun h1 => vx_fr (fun a k => a = pi + 3 ∨ (a = pi ∧ k = 8)) h h1 ∧ ∃ s, vs_lst s n RR ∧ (∀ p, p < 16 → s p ≤ 16) ∧ vs_cs h1 pi s ∧ vx_J h1 pi 8 = (vs_ns s Pd.1 : Nat))) := by
    intro g s v2 v3 hT f C L h5 e5 T5
    have hs : ∀ p, p < 16 → s p ≤ 16 := fun p hp => by have := L.2 t0 tk p hp; have := t16 p; omega
    have f5 : vx_fr (fun a k => a = pi ∧ k = 8) g h5 := vx_fr_sJ vx_fr_refl e5 ⟨rfl, rfl⟩
    refine vx_mono (vc_142_68 (s := s) G hs Pd.1 0 h5 0 v2 v3 rfl (Nat.zero_le _) rfl T5 (vx_fr_trans f (vx_fr_mono f5 (fun a k q => Or.inr q))) (fun p hp => (vx_fr_J f5 (by omega)).trans (C p hp)) (by rw [e5, vx_J_eq (by decide)]; rfl) (by show 0 ≤ 17; omega)) ?_
    rintro o h1 ⟨rfl, a1, a2, a3⟩
    exact ⟨rfl, a1, s, L, hs, a2, a3⟩
  refine vg_142 hp hT ?_
  rw [(vx_po hp).2.2.1]
  refine vx_CV_mono (vc_217 (d := d + 1) oh.1 hT (by decide : vx_rI 0)) ?_
  rintro h1 ⟨f1, z1⟩ T1
  rw [oh.2] at z1
  have LOOP : ∀ (m k : Nat) (g : ve_H) (s : Nat → Nat) (z : Int) (v2 v3 : Option Value), m = 256 - k → k ≤ 256 → z = k → vx_T 1 625 g → vx_fr (fun a k => a = pi + 3 ∨ (a = pi ∧ k = 8)) h g → vs_cs g pi s → (∀ t, vs_kp t n RR → vs_le s t) → k ≤ vs_sum s 16 → vx_W (d + 1 + 1) 142 10 [some (.ref pi), some (.int (vx_i z)), v2, v3] [] g (vx_RV (fun h1 => vx_fr (fun a k => a = pi + 3 ∨ (a = pi ∧ k = 8)) h h1 ∧ ∃ s, vs_lst s n RR ∧ (∀ p, p < 16 → s p ≤ 16) ∧ vs_cs h1 pi s ∧ vx_J h1 pi 8 = (vs_ns s Pd.1 : Nat))) := by
    intro m
    induction m with
    | zero =>
      intro k g s z v2 v3 hm hk hz hT f C L hsum
      refine vg_142_10 hp hT ⟨by omega, fun _ h3 e3 T3 => E g s v2 v3 hT f C ⟨?_, L⟩ h3 e3 T3, fun q => absurd q (by omega)⟩
      refine vs_kp_congr P16 W (fun p hp => ?_) tk
      have l := L t0 tk
      by_cases q : s p = t0 p
      · exact q.symm
      · exfalso
        have := vs_sum_lt (s := s) (t := t0) (x := p) 16 l hp (by have := l p hp; omega)
        have := vs_sum_16 (s := t0) 16 (fun p _ => t16 p)
        omega
    | succ m ih =>
      intro k g s z v2 v3 hm hk hz hT f C L hsum
      refine vg_142_10 hp hT ⟨by omega, fun q => absurd q (by omega), fun _ => ?_⟩
      exact vc_142_21 (d := d) (s0 := s) G W t16 tk (fun g1 s1 v3 T1 f1 C1 L1 q1 => ih (k + 1) g1 s1 (z + 1) _ v3 (by omega) (by omega) (by omega) T1 f1 C1 L1 (by omega)) E n 0 g s 0 0 rfl (Nat.zero_le _) rfl hT f C L (Or.inl ⟨rfl, fun r' hr' => absurd hr' (by omega), rfl⟩)
  exact LOOP 256 0 h1 (fun _ => 0) 0 none none rfl (Nat.zero_le _) rfl T1 (vx_fr_mono f1 (fun a k q => Or.inl q)) (fun p hp => by rw [z1 p hp]; rfl) (fun t _ p _ => Nat.zero_le _) (Nat.zero_le _)
end
