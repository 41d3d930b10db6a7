/-! Rows in order -/
def vr_lt (w : Nat) (f g : Nat → Int) : Prop := ∃ k, k < w ∧ (∀ j, j < k → f j = g j) ∧ f k < g k
theorem vr_lt_irr {w : Nat} {f g : Nat → Int} (h : vr_lt w f g) (e : vr_eq w f g) : False := by
  obtain ⟨k, hk, -, hl⟩ := h
  have := e k hk
  omega
theorem vr_lt_trans {w : Nat} {f g e : Nat → Int} (h1 : vr_lt w f g) (h2 : vr_lt w g e) : vr_lt w f e := by
  obtain ⟨k, hk, ek, lk⟩ := h1
  obtain ⟨l, hl, el, ll⟩ := h2
  rcases Nat.lt_trichotomy k l with q | q | q
  · exact ⟨k, hk, fun j hj => (ek j hj).trans (el j (by omega)), by rw [← el k q]; exact lk⟩
  · subst q
    exact ⟨k, hk, fun j hj => (ek j hj).trans (el j hj), by omega⟩
  · exact ⟨l, hl, fun j hj => (ek j (by omega)).trans (el j hj), by rw [ek l q]; exact ll⟩
theorem vr_lt_or {f g : Nat → Int} : ∀ w, ¬ vr_eq w f g → vr_lt w f g ∨ vr_lt w g f
  | 0, h => absurd (fun k hk => absurd hk (by omega)) h
  | w + 1, h => by
    by_cases q : vr_eq w f g
    · have hw : f w ≠ g w := fun e => h (fun k hk => by
        by_cases q2 : k = w
        · rw [q2]; exact e
        · exact q k (by omega))
      by_cases q3 : f w < g w
      · exact Or.inl ⟨w, by omega, q, q3⟩
      · exact Or.inr ⟨w, by omega, fun j hj => (q j hj).symm, by omega⟩
    · rcases vr_lt_or w q with ⟨k, a, b, c⟩ | ⟨k, a, b, c⟩
      · exact Or.inl ⟨k, by omega, b, c⟩
      · exact Or.inr ⟨k, by omega, b, c⟩
section
variable {d a w cnt : Nat} {rr : Nat → Nat → Int} {h : ve_H} {x y : Int}
theorem vc_179 {i j : Nat} (hT : vx_T 1 625 h) (K : vr_K a w) (P : vr_P a w cnt rr h) (hx : x = i) (hy : y = j) (hi : i < cnt) (hj : j < cnt) : vx_CI d 179 [.ref a, .int (vx_i x), .int (vx_i y)] h (fun r h1 => h1 = h ∧ ((r = 1 ∧ vr_lt w (rr i) (rr j)) ∨ (r = 0 ∧ ¬ vr_lt w (rr i) (rr j)))) := by
  obtain ⟨p1, p2, p3, p4, p5, p6⟩ := P
  have hw8 : 1 ≤ w ∧ w ≤ 8 := by rcases K.2.1 with rfl | rfl <;> omega
  have hxw : x * (w : Int) = ((i * w : Nat) : Int) := by rw [hx, Int.natCast_mul]
  have hyw : y * (w : Int) = ((j * w : Nat) : Int) := by rw [hy, Int.natCast_mul]
  have bi : i * w + w ≤ vx_za (vx_r a 1) := by rw [K.2.2]; rcases K.2.1 with rfl | rfl <;> omega
  have bj : j * w + w ≤ vx_za (vx_r a 1) := by rw [K.2.2]; rcases K.2.1 with rfl | rfl <;> omega
  refine vg_179 K.1 hT ?_
  have L : ∀ (n k : Nat) (z : Int), w - 1 - k = n → k ≤ w - 1 → z = k → (∀ l, l < k → rr i l = rr j l) → vx_W d 179 2 [some (.ref a), some (.int (vx_i x)), some (.int (vx_i y)), some (.int (vx_i z))] [] h (vx_RI (fun r h1 => h1 = h ∧ ((r = 1 ∧ vr_lt w (rr i) (rr j)) ∨ (r = 0 ∧ ¬ vr_lt w (rr i) (rr j))))) := by
    intro n
    have D : ∀ k, k < w → (∀ l, l < k → rr i l = rr j l) → rr j k ≤ rr i k → (k = w - 1 ∨ rr i k ≠ rr j k) → ¬ vr_lt w (rr i) (rr j) := by
      rintro k hk hl hle hor ⟨k2, hk2, e2, l2⟩
      rcases Nat.lt_trichotomy k2 k with q | q | q
      · have := hl k2 q; omega
      · subst q; omega
      · have := e2 k q; omega
    induction n with
    | zero =>
      intro k z hn hk hz hl
      have ez1 : (((i * w : Nat) : Int) + z).toNat = i * w + k := by omega
      have ez2 : (((j * w : Nat) : Int) + z).toNat = j * w + k := by omega
      refine vg_179_2 K.1 hT ?_
      rw [p1, hxw, hyw, ez1, ez2, p4 i k hi (by omega), p4 j k hj (by omega)]
      exact ⟨by omega, by omega, fun _ => ⟨by omega, by omega, fun q => ⟨rfl, Or.inr ⟨rfl, D k (by omega) hl q (by omega)⟩⟩, fun q => ⟨rfl, Or.inl ⟨rfl, k, by omega, hl, q⟩⟩⟩, fun q => absurd q (by omega)⟩
    | succ n ih =>
      intro k z hn hk hz hl
      have ez1 : (((i * w : Nat) : Int) + z).toNat = i * w + k := by omega
      have ez2 : (((j * w : Nat) : Int) + z).toNat = j * w + k := by omega
      refine vg_179_2 K.1 hT ?_
      rw [p1, hxw, hyw, ez1, ez2, p4 i k hi (by omega), p4 j k hj (by omega)]
      refine ⟨by omega, by omega, fun q => absurd q (by omega), fun _ => ⟨by omega, by omega, fun q0 => ⟨by omega, by omega, fun q => ⟨rfl, Or.inr ⟨rfl, D k (by omega) hl q (Or.inr q0)⟩⟩, fun q => ⟨rfl, Or.inl ⟨rfl, k, by omega, hl, q⟩⟩⟩, fun q0 => ?_⟩⟩
      refine ih (k + 1) (z + 1) (by omega) (by omega) (by omega) (fun l hl2 => ?_)
      by_cases q : l = k
      · rw [q]; exact q0
      · exact hl l (by omega)
  exact L (w - 1) 0 0 (by omega) (by omega) rfl (fun l hl => by omega)
/-- the first i places: those of the first i rows, in order -/
def vr_so (w : Nat) (rr : Nat → Nat → Int) (o : Nat → Nat) (i : Nat) : Prop := (∀ j, j < i → o j < i) ∧ (∀ j k, j < k → k < i → vr_lt w (rr (o j)) (rr (o k)))
theorem vr_so_inj {o : Nat → Nat} {i : Nat} (s : vr_so w rr o i) : ∀ j k, j < i → k < i → o j = o k → j = k := by
  intro j k hj hk e
  rcases Nat.lt_trichotomy j k with q | q | q
  · exact absurd (fun l _ => by rw [e]) (fun t => vr_lt_irr (s.2 j k q hk) t)
  · exact q
  · exact absurd (fun l _ => by rw [e]) (fun t => vr_lt_irr (s.2 k j q hj) t)
abbrev vr_Wo (a b _k : Nat) : Prop := b = vx_r a 3
theorem vr_P_o {h1 : ve_H} (K : vr_K a w) (P : vr_P a w cnt rr h) (f : vx_fr (vr_Wo a) h h1) : vr_P a w cnt rr h1 := by
  obtain ⟨n1, n2, n3, n4, n5, n6⟩ := vr_ne K.1
  obtain ⟨p1, p2, p3, p4, ⟨pos, q1, q2, q3⟩, p6⟩ := P
  have e2 : ∀ s, vx_J h1 (vx_r a 2) s = vx_J h (vx_r a 2) s := fun s => vx_fr_J f n3
  refine ⟨(vx_fr_J f n6).trans p1, (vx_fr_J f n6).trans p2, p3, fun i k hi hk => (vx_fr_K f n2).trans (p4 i k hi hk), ⟨pos, fun i hi => ⟨(q1 i hi).1, (e2 _).trans (q1 i hi).2⟩, fun s hs2 hne => q2 s hs2 (by rw [e2] at hne; exact hne), fun i hi => ?_⟩, p6⟩
  obtain ⟨t, t1, t2, t3⟩ := q3 i hi
  exact ⟨t, t1, t2, fun t' ht' => by rw [e2]; exact t3 t' ht'⟩
/-- one row put into its place -/
theorem vr_so_ins {o : Nat → Nat} {i at_ : Nat} (s : vr_so w rr o i) (h1 : at_ ≤ i) (h2 : ∀ j, j < at_ → vr_lt w (rr (o j)) (rr i)) (h3 : ∀ j, at_ ≤ j → j < i → vr_lt w (rr i) (rr (o j))) : vr_so w rr (fun j => if j < at_ then o j else if j = at_ then i else o (j - 1)) (i + 1) := by
  refine ⟨fun j hj => ?_, fun j k hjk hk => ?_⟩
  · show (if j < at_ then o j else if j = at_ then i else o (j - 1)) < i + 1
    split
    · have := s.1 j (by omega); omega
    split
    · omega
    · have := s.1 (j - 1) (by omega); omega
  · show vr_lt w (rr (if j < at_ then o j else if j = at_ then i else o (j - 1))) (rr (if k < at_ then o k else if k = at_ then i else o (k - 1)))
    by_cases a1 : j < at_
    · rw [if_pos a1]
      by_cases b1 : k < at_
      · rw [if_pos b1]; exact s.2 j k hjk (by omega)
      · rw [if_neg b1]
        by_cases b2 : k = at_
        · rw [if_pos b2]; exact h2 j a1
        · rw [if_neg b2]; exact s.2 j (k - 1) (by omega) (by omega)
    · rw [if_neg a1, if_neg (show ¬ k < at_ by omega), if_neg (show ¬ k = at_ by omega)]
      by_cases a2 : j = at_
      · rw [if_pos a2]; exact h3 (k - 1) (by omega) (by omega)
      · rw [if_neg a2]; exact s.2 (j - 1) (k - 1) (by omega) (by omega)
theorem vc_178_2 (K : vr_K a w) : ∀ (n i : Nat) (g : ve_H) (o : Nat → Nat) (x : Int) (v2 v3 : Option Value), cnt - i = n → i ≤ cnt → x = i → vx_T 1 625 g → vr_P a w cnt rr g → vx_fr (vr_Wo a) h g → vr_so w rr o i → (∀ j, j < i → vx_J g (vx_r a 3) j = o j) → (∀ j, i ≤ j → j < cnt → vx_J g (vx_r a 3) j = j) →
    vx_W (d + 1) 178 2 [some (.ref a), some (.int (vx_i x)), v2, v3] [] g (vx_RV (fun h1 => vx_fr (vr_Wo a) h h1 ∧ ∃ o, vr_so w rr o cnt ∧ ∀ j, j < cnt → vx_J h1 (vx_r a 3) j = o j)) := by
  obtain ⟨n1, n2, n3, n4, n5, n6⟩ := vr_ne K.1
  intro n
  induction n with
  | zero =>
    intro i g o x v2 v3 hn hi hx hT P hf hs ho hid
    have hic : i = cnt := by omega
    subst hic
    have p2 := P.2.1
    have p3 := P.2.2.1
    exact vg_178_2 K.1 hT ⟨by omega, fun _ => ⟨hf, o, hs, ho⟩, fun q => absurd q (by omega)⟩
  | succ n ih =>
    intro i g o x v2 v3 hn hi hx hT P hf hs ho hid
    have p2 := P.2.1
    have p3 := P.2.2.1
    refine vg_178_2 K.1 hT ⟨by omega, fun q => absurd q (by omega), fun _ => ⟨by omega, ?_⟩⟩
    rw [show x.toNat = i by omega, hid i (Nat.le_refl _) (by omega)]
    -- the row goes down to its place
    have L : ∀ (at_ : Nat) (g2 : ve_H) (z : Int), at_ ≤ i → z = at_ → vx_T 1 625 g2 → vr_P a w cnt rr g2 → vx_fr (vr_Wo a) h g2 → (∀ j, j < at_ → vx_J g2 (vx_r a 3) j = o j) → (∀ j, at_ < j → j ≤ i → vx_J g2 (vx_r a 3) j = o (j - 1)) → (∀ j, i < j → j < cnt → vx_J g2 (vx_r a 3) j = j) → (∀ j, at_ ≤ j → j < i → vr_lt w (rr i) (rr (o j))) →
        vx_W (d + 1) 178 19 [some (.ref a), some (.int (vx_i x)), some (.int (vx_i (i : Int))), some (.int (vx_i z))] [] g2 (vx_RV (fun h1 => vx_fr (vr_Wo a) h h1 ∧ ∃ o, vr_so w rr o cnt ∧ ∀ j, j < cnt → vx_J h1 (vx_r a 3) j = o j)) := by
      intro at_
      have FIN : ∀ (at_ : Nat) (g2 h4 : ve_H) (z : Int), at_ ≤ i → z = at_ → vx_T 1 625 h4 → vr_P a w cnt rr g2 → vx_fr (vr_Wo a) h g2 → (∀ j, j < at_ → vx_J g2 (vx_r a 3) j = o j) → (∀ j, at_ < j → j ≤ i → vx_J g2 (vx_r a 3) j = o (j - 1)) → (∀ j, i < j → j < cnt → vx_J g2 (vx_r a 3) j = j) → (∀ j, at_ ≤ j → j < i → vr_lt w (rr i) (rr (o j))) → (∀ j, j < at_ → vr_lt w (rr (o j)) (rr i)) → h4 = vx_sJ g2 (vx_r a 3) z.toNat (i : Int) →
          vx_W (d + 1) 178 2 [some (.ref a), some (.int (vx_i (x + 1))), some (.int (vx_i (i : Int))), some (.int (vx_i z))] [] h4 (vx_RV (fun h1 => vx_fr (vr_Wo a) h h1 ∧ ∃ o, vr_so w rr o cnt ∧ ∀ j, j < cnt → vx_J h1 (vx_r a 3) j = o j)) := by
        intro at_ g2 h4 z ha hz T4 P2 f2 c1 c2 c3 c4 c5 e4
        rw [show z.toNat = at_ by omega] at e4
        have f4 : vx_fr (vr_Wo a) g2 h4 := vx_fr_sJ vx_fr_refl e4 rfl
        refine ih (i + 1) h4 (fun j => if j < at_ then o j else if j = at_ then i else o (j - 1)) (x + 1) _ _ (by omega) (by omega) (by omega) T4 (vr_P_o K P2 f4) (vx_fr_trans f2 f4) (vr_so_ins hs ha c5 c4) (fun j hj => ?_) (fun j hj1 hj2 => ?_)
        · show _ = ((if j < at_ then o j else if j = at_ then i else o (j - 1) : Nat) : Int)
          rw [e4, vx_J_sJ (by omega)]
          by_cases q1 : j < at_
          · rw [if_neg (by omega), if_pos q1]; exact c1 j q1
          · by_cases q2 : j = at_
            · rw [if_pos ⟨rfl, q2⟩, if_neg q1, if_pos q2]
            · rw [if_neg (by omega), if_neg q1, if_neg q2]; exact c2 j (by omega) (by omega)
        · rw [e4, vx_J_ne (by omega)]
          exact c3 j (by omega) hj2
      induction at_ with
      | zero =>
        intro g2 z ha hz T2 P2 f2 c1 c2 c3 c4
        refine vg_178_19 K.1 T2 ⟨by omega, fun _ => ⟨by omega, fun h4 e4 T4 => ?_⟩, fun q => absurd q (by omega)⟩
        exact FIN 0 g2 h4 z (by omega) hz T4 P2 f2 c1 c2 c3 c4 (fun j hj => by omega) e4
      | succ at_ ih2 =>
        intro g2 z ha hz T2 P2 f2 c1 c2 c3 c4
        have hoa := hs.1 at_ (by omega)
        refine vg_178_19 K.1 T2 ⟨by omega, fun q => absurd q (by omega), fun _ => ⟨by omega, ?_⟩⟩
        rw [show (z - 1).toNat = at_ by omega, c1 at_ (by omega)]
        refine vx_CI_mono (vc_179 (i := i) (j := o at_) T2 K P2 rfl rfl (by omega) (by omega)) ?_
        rintro r6 h6 _ ⟨rfl, hr⟩ _
        refine ⟨fun q => ⟨by omega, fun h9 e9 T9 => ?_⟩, fun q => ⟨by omega, by omega, fun h12 e12 T12 => ?_⟩⟩
        · have hnl : ¬ vr_lt w (rr i) (rr (o at_)) := by rcases hr with ⟨e, -⟩ | ⟨-, e⟩; omega; exact e
          have hl : vr_lt w (rr (o at_)) (rr i) := by
            rcases vr_lt_or w (f := rr i) (g := rr (o at_)) (fun e => by have := P2.2.2.2.2.2 i (o at_) (by omega) (by omega) e; omega) with t | t
            · exact absurd t hnl
            · exact t
          refine FIN (at_ + 1) h6 h9 z (by omega) (by omega) T9 P2 f2 c1 c2 c3 c4 (fun j hj => ?_) e9
          by_cases q2 : j = at_
          · rw [q2]; exact hl
          · exact vr_lt_trans (hs.2 j at_ (by omega) (by omega)) hl
        · have hl : vr_lt w (rr i) (rr (o at_)) := by rcases hr with ⟨-, e⟩ | ⟨e, -⟩; exact e; omega
          rw [c1 at_ (by omega), show z.toNat = at_ + 1 by omega] at e12
          have f12 : vx_fr (vr_Wo a) h6 h12 := vx_fr_sJ vx_fr_refl e12 rfl
          refine ih2 h12 (z + (-1)) (by omega) (by omega) T12 (vr_P_o K P2 f12) (vx_fr_trans f2 f12) (fun j hj => ?_) (fun j hj1 hj2 => ?_) (fun j hj1 hj2 => ?_) (fun j hj1 hj2 => ?_)
          · rw [e12, vx_J_ne (by omega)]; exact c1 j (by omega)
          · rw [e12, vx_J_sJ (by omega)]
            by_cases q2 : j = at_ + 1
            · rw [if_pos ⟨rfl, q2⟩, q2]; rfl
            · rw [if_neg (by omega)]; exact c2 j (by omega) hj2
          · rw [e12, vx_J_ne (by omega)]; exact c3 j hj1 hj2
          · by_cases q2 : j = at_
            · rw [q2]; exact hl
            · exact c4 j (by omega) hj2
    exact L i g x (Nat.le_refl _) hx hT P hf ho (fun j h1 h2 => by omega) (fun j h1 h2 => hid j (by omega) h2) (fun j h1 h2 => by omega)
theorem vc_178 (hT : vx_T 1 625 h) (K : vr_K a w) (P : vr_P a w cnt rr h) (hid : ∀ j, j < cnt → vx_J h (vx_r a 3) j = j) : vx_CV (d + 1) 178 [.ref a] h (fun h1 => vx_fr (vr_Wo a) h h1 ∧ ∃ o, vr_so w rr o cnt ∧ ∀ j, j < cnt → vx_J h1 (vx_r a 3) j = o j) := by
  refine vg_178 K.1 hT ?_
  by_cases hc : cnt = 0
  · subst hc
    have p2 := P.2.1
    exact vg_178_2 K.1 hT ⟨by omega, fun _ => ⟨vx_fr_refl, fun _ => 0, ⟨fun j hj => by omega, fun j k h1 h2 => by omega⟩, fun j hj => by omega⟩, fun q => absurd q (by omega)⟩
  · exact vc_178_2 K (cnt - 1) 1 h (fun _ => 0) 1 none none rfl (by omega) rfl hT P vx_fr_refl ⟨fun j hj => Nat.zero_lt_one, fun j k h1 h2 => by omega⟩ (fun j hj => by rw [hid j (by omega)]; show (j : Int) = ((0 : Nat) : Int); omega) (fun j _ h2 => hid j h2)
end
