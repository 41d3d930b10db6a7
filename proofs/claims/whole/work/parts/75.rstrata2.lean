/-! Strata: the reference -/
def vs_rs (g : ve_H) (sd : Nat) (s : Nat → Nat) : Prop := ∀ p, p < 16 → vx_J g 634 (16 * sd + p) = s p
def vs_s1 (s : Nat → Nat) (R : vu_R) (j : Nat) : Nat → Nat := fun p => if p = R.1.toNat then s (R.2.2.2.2.2.2.1 j).toNat + vs_ab R j else s p
/-- edges ahead of literal j of rule r are kept -/
def vs_kb (s : Nat → Nat) (RR : Nat → vu_R) (r j : Nat) : Prop := ∀ r' j', (r' < r ∨ (r' = r ∧ j' < j)) → j' < (RR r').2.2.2.2.1 → vs_kj s (RR r') j'
section
variable {d n m sd r c : Nat} {h h1 g : ve_H} {Pd : vy_V} {RR : Nat → vu_R} {x y : Int} {R : vu_R} {s t : Nat → Nat}
theorem vs_s1_le {j : Nat} (P16 : Pd.1 ≤ 16) (W : vu_wR Pd R) (hj : j < R.2.2.2.2.1) (ha : vs_ak R.2.2.2.2 j) (hs : vs_le s t) (hk : vs_kj t R j) : vs_le (vs_s1 s R j) t := by
  obtain ⟨w1, -, w2⟩ := vu_wd P16 W
  intro p hp
  unfold vs_s1
  split
  · rename_i q
    rw [q]
    have := hk ha
    have := hs _ (w2 j hj ha).1
    unfold vs_ab
    omega
  · exact hs p hp
theorem vu_rg_4 (G : vu_rg h sd Pd n RR) (f : vx_fr (fun a k => a = 634 ∧ 16 * sd ≤ k ∧ k < 16 * sd + 16) h h1) : vu_rg h1 sd Pd n RR := vu_rg_fr G f (fun a k t => Or.inr (Or.inl t.1))
theorem vc_60_74 {P : ve_H → Prop} {v1 v3 : Int} {s0 : Nat → Nat} (G : vu_rg h sd Pd n RR) (W : ∀ r, r < n → vu_wR Pd (RR r)) (hr : r < n) (hv1 : v1 = ((16 * sd : Nat) : Int)) (hv : v3 = ((30 * sd + r : Nat) : Int)) {t0 : Nat → Nat} (t16 : ∀ p, t0 p ≤ 16) (tk : vs_kp t0 n RR)
    (X : ∀ g s v2 v4 v5, vx_T 625 672 g → vx_fr (fun a k => a = 634 ∧ 16 * sd ≤ k ∧ k < 16 * sd + 16) h g → vs_rs g sd s → (∀ t, vs_kp t n RR → vs_le s t) → ((v2 = 0 ∧ vs_kb s RR (r + 1) 0 ∧ s = s0) ∨ (v2 = 1 ∧ vs_sum s0 16 < vs_sum s 16)) → vx_W (d + 1) 60 47 [some (.ref 625), some (.int (vx_i v1)), some (.int (vx_i v2)), some (.int (vx_i (v3 + 1))), v4, v5] [] g (vx_RV P)) :
    ∀ (m j : Nat) (g : ve_H) (s : Nat → Nat) (z v2 : Int) (v5 : Option Value), m = (RR r).2.2.2.2.1 - j → j ≤ (RR r).2.2.2.2.1 → z = ((6 * (30 * sd + r) + j : Nat) : Int) → vx_T 625 672 g → vx_fr (fun a k => a = 634 ∧ 16 * sd ≤ k ∧ k < 16 * sd + 16) h g → vs_rs g sd s → (∀ t, vs_kp t n RR → vs_le s t) → ((v2 = 0 ∧ vs_kb s RR r j ∧ s = s0) ∨ (v2 = 1 ∧ vs_sum s0 16 < vs_sum s 16)) → vx_W (d + 1) 60 74 [some (.ref 625), some (.int (vx_i v1)), some (.int (vx_i v2)), some (.int (vx_i v3)), some (.int (vx_i z)), v5] [] g (vx_RV P) := by
  have n30 := G.2.2.2.1
  have sd2 := G.1.1
  have P16 := G.1.2.2.1
  have wR := W r hr
  obtain ⟨w1, w0, w2⟩ := vu_wd P16 wR
  have wo : (RR r).2.2.1.1 = -1 ∨ (6 ≤ (RR r).2.2.1.1 ∧ (RR r).2.2.1.1 ≤ 9) := by
    obtain ⟨-, -, -, -, -, -, ⟨p, mm, -, -, -, -, -, -, ov⟩, -⟩ := wR
    exact ov.elim Or.inl (fun t => Or.inr t.1)
  intro m
  induction m with
  | zero =>
    intro j g s z v2 v5 hm hj hz hT f C L Q
    have Cg := (vu_rg_4 G f).2.2.2.2 r hr
    have l6 := Cg.2.1.2.1
    refine vg_60_74 hT ?_
    rw [show v3.toNat = 30 * sd + r by omega, Cg.2.1.1]
    refine ⟨by omega, by omega, by omega, fun _ => X g s v2 _ _ hT f C L ?_, fun q => absurd q (by omega)⟩
    rcases Q with ⟨q1, q2, q3⟩ | Q
    · refine Or.inl ⟨q1, fun r' j' h1 h2 => q2 r' j' ?_ h2, q3⟩
      by_cases t : r' = r
      · right; refine ⟨t, ?_⟩; rw [t] at h2; omega
      · left; omega
    · exact Or.inr Q
  | succ m ih =>
    intro j g s z v2 v5 hm hj hz hT f C L Q
    have Gg := vu_rg_4 G f
    have Cg := Gg.2.2.2.2 r hr
    have hj2 : j < (RR r).2.2.2.2.1 := by omega
    have l6 := Cg.2.1.2.1
    obtain ⟨-, a2, a3, a4⟩ := vu_rql Cg wR hj2
    have tw := Cg.2.2.1
    have sb : ∀ p, p < 16 → s p ≤ 16 := fun p hp => by have := L t0 tk p hp; have := t16 p; omega
    refine vg_60_74 hT ?_
    rw [show v3.toNat = 30 * sd + r by omega, Cg.2.1.1]
    refine ⟨by omega, by omega, by omega, fun q => absurd q (by omega), fun _ => vx_CI_mono (vc_56 hT (by omega) Cg wR hj2 hz) ?_⟩
    rintro r5 h5 _ ⟨rfl, ⟨rfl, q5⟩ | ⟨rfl, q5⟩⟩ T5
    · refine ⟨fun _ => ?_, fun t => absurd t (by decide)⟩
      obtain ⟨x1, x2⟩ := w2 j hj2 q5
      have ed : (v1 + (RR r).2.2.2.2.2.2.1 j).toNat = 16 * sd + ((RR r).2.2.2.2.2.2.1 j).toNat := by omega
      have eh : (v1 + (RR r).1).toNat = 16 * sd + (RR r).1.toNat := by omega
      rw [show z.toNat = 6 * (30 * sd + r) + j by omega, a4 q5, Cg.2.2.2.2.1, ed, eh, C _ x1, C _ w1, tw]
      have s1 := sb _ x1
      have s2 := sb _ w1
      have ST : ∀ k : Nat, vs_ab (RR r) j = k → k ≤ 1 → (vx_rI (((s ((RR r).2.2.2.2.2.2.1 j).toNat : Nat) : Int) + (k : Nat))) ∧ ((((s (RR r).1.toNat : Nat) : Int) < (((s ((RR r).2.2.2.2.2.2.1 j).toNat : Nat) : Int) + (k : Nat)) → (0 ≤ v3 ∧ v3 < 61) ∧ (0 ≤ (v1 + (RR r).1) ∧ (v1 + (RR r).1) < 32) ∧ (∀ h17, h17 = vx_sJ h5 634 (16 * sd + (RR r).1.toNat) (((s ((RR r).2.2.2.2.2.2.1 j).toNat : Nat) : Int) + (k : Nat)) → vx_T 625 672 h17 → vx_W (d + 1) 60 74 [some (.ref 625), some (.int (vx_i v1)), some (.int (vx_i 1)), some (.int (vx_i v3)), some (.int (vx_i (z + 1))), some (.int (vx_i (((s ((RR r).2.2.2.2.2.2.1 j).toNat : Nat) : Int) + (k : Nat))))] [] h17 (vx_RV P))) ∧ ((((s ((RR r).2.2.2.2.2.2.1 j).toNat : Nat) : Int) + (k : Nat)) ≤ ((s (RR r).1.toNat : Nat) : Int) → vx_W (d + 1) 60 74 [some (.ref 625), some (.int (vx_i v1)), some (.int (vx_i v2)), some (.int (vx_i v3)), some (.int (vx_i (z + 1))), some (.int (vx_i (((s ((RR r).2.2.2.2.2.2.1 j).toNat : Nat) : Int) + (k : Nat))))] [] h5 (vx_RV P))) := by
        intro k hk hk1
        refine ⟨by omega, fun q => ⟨by omega, by omega, fun h17 e17 T17 => ?_⟩, fun q => ?_⟩
        · have f17 : vx_fr (fun a k => a = 634 ∧ 16 * sd ≤ k ∧ k < 16 * sd + 16) h5 h17 := vx_fr_sJ vx_fr_refl e17 ⟨rfl, by omega, by omega⟩
          refine ih (j + 1) h17 (vs_s1 s (RR r) j) (z + 1) 1 _ (by omega) (by omega) (by omega) T17 (vx_fr_trans f f17) (fun p hp => ?_) (fun t ht => vs_s1_le P16 wR hj2 q5 (L t ht) (ht r hr j hj2)) (Or.inr ⟨rfl, ?_⟩)
          · rw [e17, vx_J_sJ (by omega)]
            unfold vs_s1
            by_cases t : p = (RR r).1.toNat
            · rw [if_pos ⟨rfl, by omega⟩, if_pos t, hk]; omega
            · rw [if_neg (fun u => t (by omega)), if_neg t]; exact C p hp
          · have : vs_sum s 16 < vs_sum (vs_s1 s (RR r) j) 16 := vs_sum_lt (x := (RR r).1.toNat) 16 (fun p _ => by
                unfold vs_s1
                split
                · rename_i t; rw [t, hk]; omega
                · exact Nat.le_refl _) w1 (by unfold vs_s1; rw [if_pos rfl, hk]; omega)
            rcases Q with ⟨-, -, q3⟩ | ⟨-, q3⟩
            · rw [← q3]; exact this
            · omega
        · refine ih (j + 1) h5 s (z + 1) v2 _ (by omega) (by omega) (by omega) T5 f C L ?_
          rcases Q with ⟨q1, q2, q3⟩ | Q
          · refine Or.inl ⟨q1, fun r' j' h1 h2 => ?_, q3⟩
            by_cases t : r' = r ∧ j' = j
            · rw [t.1, t.2]
              intro _
              have e : (if (RR r).2.2.2.2.2.1 j = 15 ∨ (RR r).2.2.1.1 ≠ -1 then 1 else 0) = k := hk
              rw [e]
              omega
            · exact q2 r' j' (by omega) h2
          · exact Or.inr Q
      refine ⟨by omega, by omega, by omega, fun q => ⟨by omega, by omega, ST 1 (by unfold vs_ab; rw [if_pos (Or.inl (a2.mp q))]) (by omega)⟩, fun q => ⟨by omega, fun q2 => ⟨by omega, by omega, ST 0 ?_ (by omega)⟩, fun q2 => ⟨by omega, by omega, ST 1 ?_ (by omega)⟩⟩⟩
      · unfold vs_ab
        rw [if_neg]
        rintro (t | t)
        · exact q (a2.mpr t)
        · rw [if_neg t] at q2; omega
      · unfold vs_ab
        rw [if_pos]
        right; intro t; rw [if_pos t] at q2; omega
    · refine ⟨fun t => absurd rfl t, fun _ => ih (j + 1) h5 s (z + 1) v2 _ (by omega) (by omega) (by omega) T5 f C L ?_⟩
      rcases Q with ⟨q1, q2, q3⟩ | Q
      · refine Or.inl ⟨q1, fun r' j' h1 h2 => ?_, q3⟩
        by_cases t : r' = r ∧ j' = j
        · rw [t.1, t.2]; intro u; exact absurd u q5
        · exact q2 r' j' (by omega) h2
      · exact Or.inr Q
theorem vc_60_47 {P : ve_H → Prop} {v1 : Int} {s0 : Nat → Nat} (G : vu_rg h sd Pd n RR) (W : ∀ r, r < n → vu_wR Pd (RR r)) (hv1 : v1 = ((16 * sd : Nat) : Int)) {t0 : Nat → Nat} (t16 : ∀ p, t0 p ≤ 16) (tk : vs_kp t0 n RR)
    (X : ∀ g s v2 v3 v4 v5, vx_T 625 672 g → vx_fr (fun a k => a = 634 ∧ 16 * sd ≤ k ∧ k < 16 * sd + 16) h g → vs_rs g sd s → (∀ t, vs_kp t n RR → vs_le s t) → ((v2 = 0 ∧ vs_kp s n RR) ∨ (v2 = 1 ∧ vs_sum s0 16 < vs_sum s 16)) → vx_W (d + 1) 60 33 [some (.ref 625), some (.int (vx_i v1)), some (.int (vx_i v2)), v3, v4, v5] [] g (vx_RV P)) :
    ∀ (m r : Nat) (g : ve_H) (s : Nat → Nat) (z v2 : Int) (v4 v5 : Option Value), m = n - r → r ≤ n → z = ((30 * sd + r : Nat) : Int) → vx_T 625 672 g → vx_fr (fun a k => a = 634 ∧ 16 * sd ≤ k ∧ k < 16 * sd + 16) h g → vs_rs g sd s → (∀ t, vs_kp t n RR → vs_le s t) → ((v2 = 0 ∧ vs_kb s RR r 0 ∧ s = s0) ∨ (v2 = 1 ∧ vs_sum s0 16 < vs_sum s 16)) → vx_W (d + 1) 60 47 [some (.ref 625), some (.int (vx_i v1)), some (.int (vx_i v2)), some (.int (vx_i z)), v4, v5] [] g (vx_RV P) := by
  have n30 := G.2.2.2.1
  have sd2 := G.1.1
  intro m
  induction m with
  | zero =>
    intro r g s z v2 v4 v5 hm hr hz hT f C L Q
    have Gg := vu_rg_4 G f
    refine vg_60_47 hT ?_
    rw [Gg.2.1, Int.toNat_natCast, Gg.2.2.1]
    refine ⟨by omega, by omega, by omega, fun _ => X g s v2 _ _ _ hT f C L ?_, fun q => absurd q (by omega)⟩
    rcases Q with ⟨q1, q2, -⟩ | Q
    · exact Or.inl ⟨q1, fun r' h1 j' h2 => q2 r' j' (Or.inl (by omega)) h2⟩
    · exact Or.inr Q
  | succ m ih =>
    intro r g s z v2 v4 v5 hm hr hz hT f C L Q
    have Gg := vu_rg_4 G f
    refine vg_60_47 hT ?_
    rw [Gg.2.1, Int.toNat_natCast, Gg.2.2.1]
    exact ⟨by omega, by omega, by omega, fun q => absurd q (by omega), fun _ => vc_60_74 (r := r) (s0 := s0) G W (by omega) hv1 hz t16 tk (fun g1 s1 v2 v4 v5 T1 f1 C1 L1 Q1 => ih (r + 1) g1 s1 (z + 1) v2 v4 v5 (by omega) (by omega) (by omega) T1 f1 C1 L1 Q1) _ 0 g s _ v2 v5 rfl (Nat.zero_le _) (by omega) hT f C L Q⟩
theorem vc_60 (hT : vx_T 625 672 h) (G : vu_rg h sd Pd n RR) (W : ∀ r, r < n → vu_wR Pd (RR r)) (no : vs_hp (vs_w (vs_e n RR) 16) n RR = none) : vx_CV (d + 1) 60 [.ref 625] h (fun h1 => vx_fr (fun a k => a = 634 ∧ 16 * sd ≤ k ∧ k < 16 * sd + 16) h h1 ∧ ∃ s, vs_lst s n RR ∧ vs_rs h1 sd s) := by
  have sd2 := G.1.1
  have P16 := G.1.2.2.1
  obtain ⟨t0, t16, tk⟩ := vs_ex P16 W no
  refine vg_60 hT ?_
  rw [G.2.1]
  have LOOP : ∀ (m : Nat) (g : ve_H) (s : Nat → Nat) (v1 v2 : Int) (v3 v4 v5 : Option Value), 256 - vs_sum s 16 < m → v1 = ((16 * sd : Nat) : Int) → vx_T 625 672 g → vx_fr (fun a k => a = 634 ∧ 16 * sd ≤ k ∧ k < 16 * sd + 16) h g → vs_rs g sd s → (∀ t, vs_kp t n RR → vs_le s t) → ((v2 = 0 ∧ vs_kp s n RR) ∨ v2 = 1) → vx_W (d + 1) 60 33 [some (.ref 625), some (.int (vx_i v1)), some (.int (vx_i v2)), v3, v4, v5] [] g (vx_RV (fun h1 => vx_fr (fun a k => a = 634 ∧ 16 * sd ≤ k ∧ k < 16 * sd + 16) h h1 ∧ ∃ s, vs_lst s n RR ∧ vs_rs h1 sd s)) := by
    intro m
    induction m with
    | zero => intro g s v1 v2 v3 v4 v5 hm; omega
    | succ m ih =>
      intro g s v1 v2 v3 v4 v5 hm hv1 Tg f C L Q
      refine vg_60_33 Tg ?_
      rw [(vu_rg_4 G f).2.1]
      refine ⟨by omega, fun q => ?_, fun q => ?_⟩
      · rcases Q with ⟨-, Q⟩ | Q
        · exact ⟨f, s, ⟨Q, L⟩, C⟩
        · omega
      · refine vc_60_47 (s0 := s) G W hv1 t16 tk (fun g1 s1 v2 v3 v4 v5 T1 f1 C1 L1 Q1 => ?_) n 0 g s _ 0 v4 v5 rfl (Nat.zero_le _) (by omega) Tg f C L (Or.inl ⟨rfl, fun r' j' h1 _ => absurd h1 (by omega), rfl⟩)
        have b1 : vs_sum s1 16 ≤ 256 := by
          have a1 := vs_sum_le (s := s1) (t := t0) 16 (L1 t0 tk)
          have a2 := vs_sum_16 (s := t0) 16 (fun p _ => t16 p)
          omega
        rcases Q1 with ⟨q1, q2⟩ | ⟨q1, q2⟩
        · subst q1
          refine vg_60_33 T1 ⟨by decide, fun _ => ⟨f1, s1, ⟨q2, L1⟩, C1⟩, fun t => absurd rfl t⟩
        · exact ih g1 s1 v1 v2 v3 v4 v5 (by omega) hv1 T1 f1 C1 L1 (Or.inr q1)
  have Z : ∀ (m k : Nat) (g : ve_H) (z : Int), m = 16 - k → k ≤ 16 → z = ((16 * sd + k : Nat) : Int) → vx_T 625 672 g → vx_fr (fun a k => a = 634 ∧ 16 * sd ≤ k ∧ k < 16 * sd + 16) h g → (∀ j, j < k → vx_J g 634 (16 * sd + j) = 0) → vx_W (d + 1) 60 10 [some (.ref 625), some (.int (vx_i (16 * (sd : Int)))), some (.int (vx_i z)), none, none, none] [] g (vx_RV (fun h1 => vx_fr (fun a k => a = 634 ∧ 16 * sd ≤ k ∧ k < 16 * sd + 16) h h1 ∧ ∃ s, vs_lst s n RR ∧ vs_rs h1 sd s)) := by
    intro m
    induction m with
    | zero =>
      intro k g z hm hk hz Tg f A
      exact vg_60_10 Tg ⟨by omega, by omega, fun _ => LOOP 257 g (fun _ => 0) _ 1 none none none (by omega) (by omega) Tg f (fun p hp => by rw [A p (by omega)]; rfl) (fun t _ p _ => Nat.zero_le _) (Or.inr rfl), fun q => absurd q (by omega)⟩
    | succ m ih =>
      intro k g z hm hk hz Tg f A
      refine vg_60_10 Tg ⟨by omega, by omega, fun q => absurd q (by omega), fun _ => ⟨by omega, fun h5 e5 T5 => ?_⟩⟩
      rw [show z.toNat = 16 * sd + k by omega] at e5
      refine ih (k + 1) h5 (z + 1) (by omega) (by omega) (by omega) T5 (vx_fr_sJ f e5 ⟨rfl, by omega, by omega⟩) (fun j hj => ?_)
      rw [e5, vx_J_sJ (by decide)]
      by_cases q : j = k
      · rw [if_pos ⟨rfl, by omega⟩]
      · rw [if_neg (fun t => q (by omega))]; exact A j (by omega)
  exact Z 16 0 h _ rfl (by omega) (by omega) hT vx_fr_refl (fun j hj => absurd hj (by omega))
end
