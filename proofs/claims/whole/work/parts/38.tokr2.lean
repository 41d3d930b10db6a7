/-! The reference's tokens: one token, all tokens -/
theorem vx_pw9 {m : Nat} (h : m ≤ 9) : (10 : Int) ^ m ≤ 1000000000 := by
  match m, h with
  | 0, _ => decide
  | 1, _ => decide
  | 2, _ => decide
  | 3, _ => decide
  | 4, _ => decide
  | 5, _ => decide
  | 6, _ => decide
  | 7, _ => decide
  | 8, _ => decide
  | 9, _ => decide
  | m + 10, h => omega
theorem vx_pw7 {m : Nat} (h : m ≤ 7) : (256 : Int) ^ m ≤ 72057594037927936 := by
  match m, h with
  | 0, _ => decide
  | 1, _ => decide
  | 2, _ => decide
  | 3, _ => decide
  | 4, _ => decide
  | 5, _ => decide
  | 6, _ => decide
  | 7, _ => decide
  | m + 8, h => omega
theorem vx_pw6 {m : Nat} (h : m ≤ 6) : (256 : Int) ^ m ≤ 281474976710656 := by
  match m, h with
  | 0, _ => decide
  | 1, _ => decide
  | 2, _ => decide
  | 3, _ => decide
  | 4, _ => decide
  | 5, _ => decide
  | 6, _ => decide
  | m + 7, h => omega
theorem vx_pw5 {m : Nat} (h : m ≤ 5) : (256 : Int) ^ m ≤ 1099511627776 := by
  match m, h with
  | 0, _ => decide
  | 1, _ => decide
  | 2, _ => decide
  | 3, _ => decide
  | 4, _ => decide
  | 5, _ => decide
  | m + 6, h => omega
def vt_wo (v : Int) : Int := if v = 26995 then 1 else if v = 427071729268 then 2 else if v = 7566701 then 3 else if v = 465557353332 then 4 else if v = 1836020596 then 5 else 0
theorem vt_wo_r (v : Int) : 0 ≤ vt_wo v ∧ vt_wo v ≤ 5 := by
  unfold vt_wo
  (repeat' split) <;> omega
theorem vt_nk_wo {v : Int} (hv : vt_vs v) : vt_nk (72057594037927936 + vt_lf v) = if vt_wo v = 0 then 2 else vt_wo v + 4 := by
  have I : ∀ w : Int, vt_vs w → v ≠ w → vt_lf v ≠ vt_lf w := fun w hw q e => q (vt_lf_inj hv hw e)
  unfold vt_wo
  by_cases h1 : v = 26995
  · subst h1; decide
  by_cases h2 : v = 427071729268
  · subst h2; decide
  by_cases h3 : v = 7566701
  · subst h3; decide
  by_cases h4 : v = 465557353332
  · subst h4; decide
  by_cases h5 : v = 1836020596
  · subst h5; decide
  have n1 := I 26995 (by omega) h1
  have n2 := I 427071729268 (by omega) h2
  have n3 := I 7566701 (by omega) h3
  have n4 := I 465557353332 (by omega) h4
  have n5 := I 1836020596 (by omega) h5
  rw [show vt_lf 26995 = 115942642155520 from by decide] at n1
  rw [show vt_lf 427071729268 = 109330362692608 from by decide] at n2
  rw [show vt_lf 7566701 = 126948177084416 from by decide] at n3
  rw [show vt_lf 465557353332 = 119182682452992 from by decide] at n4
  rw [show vt_lf 1836020596 = 120325445779456 from by decide] at n5
  rw [if_neg h1, if_neg h2, if_neg h3, if_neg h4, if_neg h5]
  unfold vt_nk
  rw [if_neg (by omega), if_neg (by omega), if_neg (by omega), if_neg (by omega), if_neg (by omega)]
  rfl
theorem vt_see_pos {c : Nat → Int} {n k : Nat} (h : vt_see c n k ≠ 0) : k < n ∧ vt_see c n k = c k := by
  unfold vt_see at *
  by_cases q : k < n
  · rw [if_pos q]; exact ⟨q, rfl⟩
  · rw [if_neg q] at h; exact absurd rfl h
theorem vt_see_in {c : Nat → Int} {n k : Nat} (h : k < n) : vt_see c n k = c k := by unfold vt_see; rw [if_pos h]
def vt_o1 (c : Nat → Int) (n i T : Nat) (h0 : ve_H) (r : Int) (h1 : ve_H) : Prop := ∃ kr cr vr, vt_q1 T kr cr i vr h0 h1 ∧ vt_rt (vt_tok c n i).1 (vt_tok c n i).2.1 kr cr vr ∧ ((vt_tok c n i).1 ≠ 1 → r = ((vt_tok c n i).2.2 : Nat))
theorem vt_rt_bad {ct cr vr : Int} : vt_rt 1 ct 6 cr vr := by
  unfold vt_rt
  refine ⟨fun q => absurd q (by omega), fun _ => rfl, fun q => absurd q (by omega), fun q => absurd q (by omega), fun q => absurd q (by omega), fun q => absurd q (by omega), fun q => absurd q (by omega), fun q => absurd q (by omega), by omega, Or.inl (by omega)⟩
section
variable {d : Nat} {h : ve_H} {x y z : Int}
theorem vc_28 {x1 x2 x3 x4 x5 : Int} (hT : vx_T 625 672 h) (h1 : 0 ≤ x1 ∧ x1 < 256) (h2 : 0 ≤ x2 ∧ x2 < 256) (h3 : 0 ≤ x3 ∧ x3 < 256) (h4 : 0 ≤ x4 ∧ x4 < 256) (h5 : 0 ≤ x5 ∧ x5 < 256) : vx_CL d 28 [.int (vx_i x1), .int (vx_i x2), .int (vx_i x3), .int (vx_i x4), .int (vx_i x5)] h (fun r g => g = h ∧ r = (((x1 * 256 + x2) * 256 + x3) * 256 + x4) * 256 + x5) := by
  refine vg_28 hT ⟨by omega, by omega, by omega, by omega, by omega, rfl, ?_⟩
  rw [vx_lor8 (by omega) h2, vx_lor8 (by omega) h3, vx_lor8 (by omega) h4, vx_lor8 (by omega) h5]
theorem vc_29 (hT : vx_T 625 672 h) (hx : vx_rL x) : vx_CI (d + 1) 29 [.long (vx_l x)] h (fun r h1 => h1 = h ∧ r = vt_wo x) := by
  unfold vt_wo
  refine vg_29 hT (vx_CL_mono (vc_28 hT (by omega) (by omega) (by omega) (by omega) (by omega)) ?_)
  rintro r1 h1 _ ⟨rfl, rfl⟩ -
  refine ⟨hx, fun q1 => vx_CL_mono (vc_28 hT (by omega) (by omega) (by omega) (by omega) (by omega)) ?_, fun q1 => ⟨rfl, by rw [if_pos (by omega)]⟩⟩
  rintro r4 h4 _ ⟨rfl, rfl⟩ -
  refine ⟨fun q2 => vx_CL_mono (vc_28 hT (by omega) (by omega) (by omega) (by omega) (by omega)) ?_, fun q2 => ⟨rfl, by rw [if_neg (by omega), if_pos (by omega)]⟩⟩
  rintro r6 h6 _ ⟨rfl, rfl⟩ -
  refine ⟨fun q3 => vx_CL_mono (vc_28 hT (by omega) (by omega) (by omega) (by omega) (by omega)) ?_, fun q3 => ⟨rfl, by rw [if_neg (by omega), if_neg (by omega), if_pos (by omega)]⟩⟩
  rintro r8 h8 _ ⟨rfl, rfl⟩ -
  refine ⟨fun q4 => vx_CL_mono (vc_28 hT (by omega) (by omega) (by omega) (by omega) (by omega)) ?_, fun q4 => ⟨rfl, by rw [if_neg (by omega), if_neg (by omega), if_neg (by omega), if_pos (by omega)]⟩⟩
  rintro r10 h10 _ ⟨rfl, rfl⟩ -
  exact ⟨fun q5 => ⟨rfl, by rw [if_neg (by omega), if_neg (by omega), if_neg (by omega), if_neg (by omega), if_neg (by omega)]⟩, fun q5 => ⟨rfl, by rw [if_neg (by omega), if_neg (by omega), if_neg (by omega), if_neg (by omega), if_pos (by omega)]⟩⟩
theorem vc_31_521 {v1 v2 v3 v4 : Int} {v6 v7 v8 : Option Value} {P : Int → ve_H → Prop} (hT : vx_T 625 672 h) (hr : vx_rI v3) (p : P v3 h) : vx_W (d + 1) 31 521 [some (.ref 625), some (.int (vx_i v1)), some (.int (vx_i v2)), some (.int (vx_i v3)), some (.long (vx_l v4)), none, v6, v7, v8] [] h (vx_RI P) := vg_31_521 hT ⟨hr, p⟩
theorem vc_31_29 {n T i : Nat} {c : Nat → Int} {x v2 : Int} (hT : vx_T 625 672 h) (X : vt_tr h n c) (ht : vx_J h 625 5 = T) (hn : T < 602) (hx : x = i) (hi : i < n) (hd : 48 ≤ c i ∧ c i ≤ 57) : ∀ (m k : Nat) (y a : Int), y = k → n - k = m → i < k → k ≤ n → vt_end vt_db c n i = vt_end vt_db c n k → a = vt_num c (min (k - i) 9) i 0 → (∀ j, i ≤ j → j < k → 48 ≤ c j ∧ c j ≤ 57) →
    vx_W (d + 1) 31 29 [some (.ref 625), some (.int (vx_i x)), some (.int (vx_i v2)), some (.int (vx_i y)), some (.long (vx_l a)), none, none, none, none] [] h (vx_RI (vt_o1 c n i T h)) := by
  have hn6 := X.2.1
  have e0 : vt_tok c n i = if vt_end vt_db c n i ≤ i + 9 then (4, vt_num c (vt_end vt_db c n i - i) i 0, vt_end vt_db c n i) else (1, 0, n) := by
    unfold vt_tok
    rw [if_neg (by omega), if_neg (by omega), if_pos hd]
  intro m
  induction m with
  | zero =>
    intro k y a hy hm hik hk he ha hall
    have hkn : k = n := by omega
    have hek : vt_end vt_db c n i = k := by rw [he, vt_end_ge (by omega)]
    have hnum := vt_num_r (c := c) (min (k - i) 9) i 0 1 (fun j q1 q2 => hall j q1 (by omega)) (by omega) (by omega)
    have hpow : (10 : Int) ^ (min (k - i) 9) ≤ 1000000000 := by
      have h9 : min (k - i) 9 ≤ 9 := by omega
      exact vx_pw9 h9
    refine vg_31_29 hT (vx_CI_mono (vc_22 hT X hy (by omega)) ?_)
    rintro r1 h1 hr1 ⟨rfl, hs, -⟩ -
    refine vx_CI_mono (vc_23 hT hr1) ?_
    rintro r2 h2 _ ⟨rfl, q2⟩ -
    have hs0 : vt_see c n k = 0 := by unfold vt_see; rw [if_neg (by omega)]
    refine ⟨fun q => ⟨by omega, fun q9 => ?_, fun q9 => ?_⟩, fun q => absurd q (by omega)⟩
    · refine vx_CV_mono (vc_27 hT ht hn (by omega) (by omega) (by omega) (by omega)) (fun h6 p T6 => vc_31_521 T6 (by omega) ?_)
      rw [hx] at p
      refine ⟨3, 0, a, p, ?_, fun _ => ?_⟩
      · rw [e0, if_pos (by omega), hek]
        rw [show min (k - i) 9 = k - i by omega] at ha hnum hpow
        unfold vt_rt
        refine ⟨fun q => absurd q (by omega), fun q => absurd q (by omega), fun q => absurd q (by omega), fun q => absurd q (by omega), fun _ => ⟨rfl, ha, by omega, by omega⟩, fun q => absurd q (by omega), fun q => absurd q (by omega), fun q => absurd q (by omega), by omega, Or.inl (by omega)⟩
      · rw [e0, if_pos (by omega), hek]
        exact hy
    · refine vx_CV_mono (vc_27 hT ht hn (by omega) (by omega) (by omega) (by omega)) (fun h6 p T6 => vc_31_521 T6 (by omega) ?_)
      rw [hx] at p
      refine ⟨6, 0, a, p, ?_, fun q => ?_⟩
      · rw [e0, if_neg (by omega)]
        exact vt_rt_bad
      · rw [e0, if_neg (by omega)] at q
        exact absurd rfl q
  | succ m ih =>
    intro k y a hy hm hik hk he ha hall
    have hnum := vt_num_r (c := c) (min (k - i) 9) i 0 1 (fun j q1 q2 => hall j q1 (by omega)) (by omega) (by omega)
    have hpow : (10 : Int) ^ (min (k - i) 9) ≤ 1000000000 := by
      have h9 : min (k - i) 9 ≤ 9 := by omega
      exact vx_pw9 h9
    have hkn : k < n := by omega
    have hs0 := vt_see_in (c := c) hkn
    refine vg_31_29 hT (vx_CI_mono (vc_22 hT X hy (by omega)) ?_)
    rintro r1 h1 hr1 ⟨rfl, hs, -⟩ -
    refine vx_CI_mono (vc_23 hT hr1) ?_
    rintro r2 h2 _ ⟨rfl, q2⟩ -
    refine ⟨fun q => ?_, fun q => ⟨by omega, fun q9 => ?_, fun q9 => vx_CI_mono (vc_22 hT X hy (by omega)) ?_⟩⟩
    · have hek : vt_end vt_db c n i = k := by rw [he, vt_end_f (decide_eq_false (by omega))]
      refine ⟨by omega, fun q9 => ?_, fun q9 => ?_⟩
      · refine vx_CV_mono (vc_27 hT ht hn (by omega) (by omega) (by omega) (by omega)) (fun h6 p T6 => vc_31_521 T6 (by omega) ?_)
        rw [hx] at p
        refine ⟨3, 0, a, p, ?_, fun _ => ?_⟩
        · rw [e0, if_pos (by omega), hek]
          rw [show min (k - i) 9 = k - i by omega] at ha hnum hpow
          unfold vt_rt
          refine ⟨fun q => absurd q (by omega), fun q => absurd q (by omega), fun q => absurd q (by omega), fun q => absurd q (by omega), fun _ => ⟨rfl, ha, by omega, by omega⟩, fun q => absurd q (by omega), fun q => absurd q (by omega), fun q => absurd q (by omega), by omega, Or.inl (by omega)⟩
        · rw [e0, if_pos (by omega), hek]
          exact hy
      · refine vx_CV_mono (vc_27 hT ht hn (by omega) (by omega) (by omega) (by omega)) (fun h6 p T6 => vc_31_521 T6 (by omega) ?_)
        rw [hx] at p
        refine ⟨6, 0, a, p, ?_, fun q => ?_⟩
        · rw [e0, if_neg (by omega)]
          exact vt_rt_bad
        · rw [e0, if_neg (by omega)] at q
          exact absurd rfl q
    · refine ih (k + 1) (y + 1) a (by omega) (by omega) (by omega) (by omega) (by rw [he, vt_end_t hkn (decide_eq_true (by omega))]) ?_ (fun j q1 q2 => ?_)
      · rw [ha, show min (k + 1 - i) 9 = 9 by omega, show min (k - i) 9 = 9 by omega]
      · by_cases hj : j = k
        · rw [hj]; omega
        · exact hall j q1 (by omega)
    · rintro r10 h10 _ ⟨rfl, hs10, -⟩ -
      refine ih (k + 1) (y + 1) _ (by omega) (by omega) (by omega) (by omega) (by rw [he, vt_end_t hkn (decide_eq_true (by omega))]) ?_ (fun j q1 q2 => ?_)
      · rw [show min (k + 1 - i) 9 = (k - i) + 1 by omega, vt_num_snoc, show i + (k - i) = k by omega]
        rw [show min (k - i) 9 = k - i by omega] at ha
        omega
      · by_cases hj : j = k
        · rw [hj]; omega
        · exact hall j q1 (by omega)
theorem vc_31_110 {n T i : Nat} {c : Nat → Int} {x v2 : Int} (hT : vx_T 625 672 h) (X : vt_tr h n c) (ht : vx_J h 625 5 = T) (hn : T < 602) (hx : x = i) (hi : i < n) (hd : 97 ≤ c i ∧ c i ≤ 122) : ∀ (m k : Nat) (y a : Int), y = k → n - k = m → i < k → k ≤ n → vt_end (vt_wb 0) c n i = vt_end (vt_wb 0) c n k → a = vt_rf c (min (k - i) 7) i 0 →
    vx_W (d + 2) 31 110 [some (.ref 625), some (.int (vx_i x)), some (.int (vx_i v2)), some (.int (vx_i y)), some (.long (vx_l a)), none, none, none, none] [] h (vx_RI (vt_o1 c n i T h)) := by
  have hn6 := X.2.1
  have e0 : vt_tok c n i = if vt_end (vt_wb 0) c n i ≤ i + 6 then (vt_nk (vt_nm c (vt_end (vt_wb 0) c n i) i), vt_nm c (vt_end (vt_wb 0) c n i) i, vt_end (vt_wb 0) c n i) else (1, 0, n) := by
    unfold vt_tok
    rw [if_pos hd]
  have A : ∀ k : Nat, i < k → k ≤ n → 0 ≤ vt_rf c (min (k - i) 7) i 0 ∧ vt_rf c (min (k - i) 7) i 0 < 72057594037927936 := by
    intro k h1 h2
    have hr := vt_rf_r (c := c) (min (k - i) 7) i (fun j q1 q2 => (X.2.2 j (by omega)).2)
    have hp : (256 : Int) ^ (min (k - i) 7) ≤ 72057594037927936 := vx_pw7 (by omega)
    omega
  -- at the word's end
  have F : ∀ (k : Nat) (y a : Int), y = k → i < k → k ≤ n → vt_end (vt_wb 0) c n i = k → a = vt_rf c (min (k - i) 7) i 0 → (vx_rI (y - x)) ∧ (((y - x) ≤ 5 → vx_CI (d + 1) 29 [.long (vx_l a)] h (fun r12 h12 => vx_T 625 672 h12 → ((r12 ≤ 0 → (((y - x) ≤ 6 → vx_CV (d + 1) 27 [.ref 625, .int (vx_i 1), .int (vx_i r12), .int (vx_i x), .long (vx_l a)] h12 (fun h15 => vx_T 625 672 h15 → vx_W (d + 2) 31 521 [some (.ref 625), some (.int (vx_i x)), some (.int (vx_i v2)), some (.int (vx_i y)), some (.long (vx_l a)), none, some (.int (vx_i r12)), none, none] [] h15 (vx_RI (vt_o1 c n i T h)))) ∧ (6 < (y - x) → vx_CV (d + 1) 27 [.ref 625, .int (vx_i 6), .int (vx_i r12), .int (vx_i x), .long (vx_l a)] h12 (fun h16 => vx_T 625 672 h16 → vx_W (d + 2) 31 521 [some (.ref 625), some (.int (vx_i x)), some (.int (vx_i v2)), some (.int (vx_i y)), some (.long (vx_l a)), none, some (.int (vx_i r12)), none, none] [] h16 (vx_RI (vt_o1 c n i T h)))))) ∧ (0 < r12 → vx_CV (d + 1) 27 [.ref 625, .int (vx_i 5), .int (vx_i r12), .int (vx_i x), .long (vx_l a)] h12 (fun h17 => vx_T 625 672 h17 → vx_W (d + 2) 31 521 [some (.ref 625), some (.int (vx_i x)), some (.int (vx_i v2)), some (.int (vx_i y)), some (.long (vx_l a)), none, some (.int (vx_i r12)), none, none] [] h17 (vx_RI (vt_o1 c n i T h))))))) ∧ (5 < (y - x) → (((y - x) ≤ 6 → vx_CV (d + 1) 27 [.ref 625, .int (vx_i 1), .int (vx_i 0), .int (vx_i x), .long (vx_l a)] h (fun h19 => vx_T 625 672 h19 → vx_W (d + 2) 31 521 [some (.ref 625), some (.int (vx_i x)), some (.int (vx_i v2)), some (.int (vx_i y)), some (.long (vx_l a)), none, some (.int (vx_i 0)), none, none] [] h19 (vx_RI (vt_o1 c n i T h)))) ∧ (6 < (y - x) → vx_CV (d + 1) 27 [.ref 625, .int (vx_i 6), .int (vx_i 0), .int (vx_i x), .long (vx_l a)] h (fun h20 => vx_T 625 672 h20 → vx_W (d + 2) 31 521 [some (.ref 625), some (.int (vx_i x)), some (.int (vx_i v2)), some (.int (vx_i y)), some (.long (vx_l a)), none, some (.int (vx_i 0)), none, none] [] h20 (vx_RI (vt_o1 c n i T h))))))) := by
    intro k y a hy h1 h2 hek ha
    have hA := A k h1 h2
    rw [← ha] at hA
    have N : ∀ kr cr : Int, k ≤ i + 6 → kr = (if vt_wo a = 0 then 1 else 5) → (vt_wo a ≠ 0 → cr = vt_wo a) → vx_rI cr → vx_CV (d + 1) 27 [.ref 625, .int (vx_i kr), .int (vx_i cr), .int (vx_i x), .long (vx_l a)] h (fun h15 => vx_T 625 672 h15 → vt_o1 c n i T h y h15) := by
      intro kr cr h6 hkr hcr hrc
      obtain ⟨hm, hvs⟩ := vt_nm_lf (c := c) (e := k) (i := i) h1 h6 (fun j q1 q2 => (X.2.2 j (by omega)).2)
      rw [show min (k - i) 7 = k - i by omega] at ha
      rw [← ha] at hm hvs
      have hw := vt_wo_r a
      have hnk := vt_nk_wo hvs
      have hkrr : vx_rI kr := by rw [hkr]; split <;> omega
      refine vx_CV_mono (vc_27 hT ht hn hkrr hrc (by omega) (by omega)) (fun h15 p T15 => ?_)
      rw [hx] at p
      refine ⟨kr, cr, a, p, ?_, fun _ => ?_⟩
      · rw [e0, hek, if_pos h6]
        show vt_rt (vt_nk (vt_nm c k i)) (vt_nm c k i) kr cr a
        rw [hm, hnk]
        unfold vt_rt
        by_cases hz : vt_wo a = 0
        · rw [if_pos hz] at hkr ⊢
          refine ⟨fun q => absurd q (by omega), fun q => absurd q (by omega), fun _ => ⟨hkr, hvs, rfl⟩, fun q => absurd q (by omega), fun q => absurd q (by omega), fun q => absurd q (by omega), fun q => absurd q (by omega), fun q => absurd q (by omega), by omega, Or.inl (by omega)⟩
        · rw [if_neg hz] at hkr ⊢
          refine ⟨fun q => absurd q (by omega), fun q => absurd q (by omega), fun q => absurd q (by omega), fun q => absurd q (by omega), fun q => absurd q (by omega), fun _ => ⟨hkr, by have := hcr hz; omega⟩, fun q => absurd q (by omega), fun q => absurd q (by omega), by omega, Or.inl (by omega)⟩
      · rw [e0, hek, if_pos h6]
        exact hy
    have B : ∀ cr : Int, ¬ k ≤ i + 6 → vx_rI cr → vx_CV (d + 1) 27 [.ref 625, .int (vx_i 6), .int (vx_i cr), .int (vx_i x), .long (vx_l a)] h (fun h15 => vx_T 625 672 h15 → vt_o1 c n i T h y h15) := by
      intro cr h6 hrc
      refine vx_CV_mono (vc_27 hT ht hn (by omega) hrc (by omega) (by omega)) (fun h15 p T15 => ?_)
      rw [hx] at p
      refine ⟨6, cr, a, p, ?_, fun q => ?_⟩
      · rw [e0, hek, if_neg h6]
        exact vt_rt_bad
      · rw [e0, hek, if_neg h6] at q
        exact absurd rfl q
    refine ⟨by omega, fun q5 => vx_CI_mono (vc_29 hT (by omega)) ?_, fun q5 => ⟨fun q6 => ?_, fun q6 => ?_⟩⟩
    · rintro r12 h12 hr12 ⟨rfl, rfl⟩ -
      have hw := vt_wo_r a
      refine ⟨fun q0 => ⟨fun q6 => vx_CV_mono (N 1 _ (by omega) (by rw [if_pos (by omega)]) (fun q => absurd (by omega) q) hr12) (fun h15 p T15 => vc_31_521 T15 (by omega) (p T15)), fun q6 => absurd q6 (by omega)⟩, fun q0 => vx_CV_mono (N 5 _ (by omega) (by rw [if_neg (by omega)]) (fun _ => rfl) hr12) (fun h15 p T15 => vc_31_521 T15 (by omega) (p T15))⟩
    · have hw0 : vt_wo a = 0 := by
        have hlo := vt_rf_lo (c := c) 5 i (fun j q1 q2 => (X.2.2 j (by omega)).2)
        rw [show min (k - i) 7 = 5 + 1 by omega] at ha
        rw [← ha] at hlo
        have : (1099511627776 : Int) ≤ a := hlo.1
        unfold vt_wo
        rw [if_neg (by omega), if_neg (by omega), if_neg (by omega), if_neg (by omega), if_neg (by omega)]
      exact vx_CV_mono (N 1 0 (by omega) (by rw [if_pos hw0]) (fun q => absurd hw0 q) (by omega)) (fun h15 p T15 => vc_31_521 T15 (by omega) (p T15))
    · exact vx_CV_mono (B 0 (by omega) (by omega)) (fun h15 p T15 => vc_31_521 T15 (by omega) (p T15))
  intro m
  induction m with
  | zero =>
    intro k y a hy hm hik hk he ha
    have hek : vt_end (vt_wb 0) c n i = k := by rw [he, vt_end_ge (by omega)]
    have hs0 : vt_see c n k = 0 := by unfold vt_see; rw [if_neg (by omega)]
    refine vg_31_110 hT (vx_CI_mono (vc_22 hT X hy (by omega)) ?_)
    rintro r1 h1 hr1 ⟨rfl, hs, -⟩ -
    refine vx_CI_mono (vc_24 hT hr1) ?_
    rintro r2 h2 _ ⟨rfl, q2⟩ -
    refine ⟨fun q => absurd q (by omega), fun q => vx_CI_mono (vc_22 hT X hy (by omega)) ?_⟩
    rintro r7 h7 hr7 ⟨rfl, hs7, -⟩ -
    refine vx_CI_mono (vc_23 hT hr7) ?_
    rintro r8 h8 _ ⟨rfl, q8⟩ -
    exact ⟨fun _ => F k y a hy hik hk hek ha, fun q => absurd q (by omega)⟩
  | succ m ih =>
    intro k y a hy hm hik hk he ha
    have hkn : k < n := by omega
    have hs0 := vt_see_in (c := c) hkn
    have hck := (X.2.2 k hkn).2
    have hA := A k hik hk
    rw [← ha] at hA
    have M : vt_wb 0 (c k) = true → (vx_rI (y - x)) ∧ ((7 ≤ (y - x) → vx_W (d + 2) 31 110 [some (.ref 625), some (.int (vx_i x)), some (.int (vx_i v2)), some (.int (vx_i (y + 1))), some (.long (vx_l a)), none, none, none, none] [] h (vx_RI (vt_o1 c n i T h))) ∧ ((y - x) < 7 → vx_CI (d + 1) 22 [.ref 625, .int (vx_i y)] h (fun r6 h6 => vx_T 625 672 h6 → vx_W (d + 2) 31 110 [some (.ref 625), some (.int (vx_i x)), some (.int (vx_i v2)), some (.int (vx_i (y + 1))), some (.long (vx_l (vx_lor (vx_lshl a 8) r6))), none, none, none, none] [] h6 (vx_RI (vt_o1 c n i T h))))) := by
      intro hp
      have he2 : vt_end (vt_wb 0) c n i = vt_end (vt_wb 0) c n (k + 1) := by rw [he, vt_end_t hkn hp]
      refine ⟨by omega, fun q7 => ih (k + 1) (y + 1) a (by omega) (by omega) (by omega) (by omega) he2 ?_, fun q7 => vx_CI_mono (vc_22 hT X hy (by omega)) ?_⟩
      · rw [ha, show min (k + 1 - i) 7 = 7 by omega, show min (k - i) 7 = 7 by omega]
      · rintro r6 h6 _ ⟨rfl, hs6, -⟩ -
        refine ih (k + 1) (y + 1) _ (by omega) (by omega) (by omega) (by omega) he2 ?_
        have hr := vt_rf_r (c := c) (k - i) i (fun j q1 q2 => (X.2.2 j (by omega)).2)
        have hp6 : (256 : Int) ^ (k - i) ≤ 281474976710656 := vx_pw6 (by omega)
        rw [show min (k - i) 7 = k - i by omega] at ha
        rw [vx_lor8 (by omega) (by omega), show min (k + 1 - i) 7 = (k - i) + 1 by omega, vt_rf_snoc, show i + (k - i) = k by omega, ← ha]
        omega
    refine vg_31_110 hT (vx_CI_mono (vc_22 hT X hy (by omega)) ?_)
    rintro r1 h1 hr1 ⟨rfl, hs, -⟩ -
    refine vx_CI_mono (vc_24 hT hr1) ?_
    rintro r2 h2 _ ⟨rfl, q2⟩ -
    refine ⟨fun q => M (decide_eq_true (by omega)), fun q => vx_CI_mono (vc_22 hT X hy (by omega)) ?_⟩
    rintro r7 h7 hr7 ⟨rfl, hs7, -⟩ -
    refine vx_CI_mono (vc_23 hT hr7) ?_
    rintro r8 h8 _ ⟨rfl, q8⟩ -
    refine ⟨fun q => F k y a hy hik hk ?_ ha, fun q => M (decide_eq_true (by omega))⟩
    rw [he, vt_end_f (decide_eq_false (by omega))]
theorem vc_31_225 {n T i : Nat} {c : Nat → Int} {x v2 : Int} (hT : vx_T 625 672 h) (X : vt_tr h n c) (ht : vx_J h 625 5 = T) (hn : T < 602) (hx : x = i) (hi : i < n) (hd : 65 ≤ c i ∧ c i ≤ 90) : ∀ (m k : Nat) (y a : Int), y = k → n - k = m → i < k → k ≤ n → vt_end (vt_wb 1) c n i = vt_end (vt_wb 1) c n k → a = vt_rf c (min (k - i) 5) i 0 →
    vx_W (d + 2) 31 225 [some (.ref 625), some (.int (vx_i x)), some (.int (vx_i v2)), some (.int (vx_i y)), some (.long (vx_l a)), none, none, none, none] [] h (vx_RI (vt_o1 c n i T h)) := by
  have hn6 := X.2.1
  have e0 : vt_tok c n i = if vt_end (vt_wb 1) c n i ≤ i + 4 then (3, vt_nm c (vt_end (vt_wb 1) c n i) i, vt_end (vt_wb 1) c n i) else (1, 0, n) := by
    unfold vt_tok
    rw [if_neg (by omega), if_pos hd]
  have A : ∀ k : Nat, i < k → k ≤ n → 0 ≤ vt_rf c (min (k - i) 5) i 0 ∧ vt_rf c (min (k - i) 5) i 0 < 1099511627776 := by
    intro k h1 h2
    have hr := vt_rf_r (c := c) (min (k - i) 5) i (fun j q1 q2 => (X.2.2 j (by omega)).2)
    have hp : (256 : Int) ^ (min (k - i) 5) ≤ 1099511627776 := vx_pw5 (by omega)
    omega
  have F : ∀ (k : Nat) (y a : Int), y = k → i < k → k ≤ n → vt_end (vt_wb 1) c n i = k → a = vt_rf c (min (k - i) 5) i 0 → (vx_rI (y - x)) ∧ (((y - x) ≤ 4 → vx_CV (d + 1) 27 [.ref 625, .int (vx_i 2), .int (vx_i 0), .int (vx_i x), .long (vx_l a)] h (fun h6 => vx_T 625 672 h6 → vx_W (d + 2) 31 521 [some (.ref 625), some (.int (vx_i x)), some (.int (vx_i v2)), some (.int (vx_i y)), some (.long (vx_l a)), none, none, none, none] [] h6 (vx_RI (vt_o1 c n i T h)))) ∧ (4 < (y - x) → vx_CV (d + 1) 27 [.ref 625, .int (vx_i 6), .int (vx_i 0), .int (vx_i x), .long (vx_l a)] h (fun h7 => vx_T 625 672 h7 → vx_W (d + 2) 31 521 [some (.ref 625), some (.int (vx_i x)), some (.int (vx_i v2)), some (.int (vx_i y)), some (.long (vx_l a)), none, none, none, none] [] h7 (vx_RI (vt_o1 c n i T h))))) := by
    intro k y a hy h1 h2 hek ha
    have hA := A k h1 h2
    rw [← ha] at hA
    refine ⟨by omega, fun q4 => ?_, fun q4 => ?_⟩
    · obtain ⟨hm, hvs⟩ := vt_nm_lf (c := c) (e := k) (i := i) h1 (by omega) (fun j q1 q2 => (X.2.2 j (by omega)).2)
      rw [show min (k - i) 5 = k - i by omega] at ha
      rw [← ha] at hm hvs
      refine vx_CV_mono (vc_27 hT ht hn (by omega) (by omega) (by omega) (by omega)) (fun h15 p T15 => vc_31_521 T15 (by omega) ?_)
      rw [hx] at p
      refine ⟨2, 0, a, p, ?_, fun _ => ?_⟩
      · rw [e0, hek, if_pos (by omega)]
        show vt_rt 3 (vt_nm c k i) 2 0 a
        rw [hm]
        unfold vt_rt
        refine ⟨fun q => absurd q (by omega), fun q => absurd q (by omega), fun q => absurd q (by omega), fun _ => ⟨rfl, hvs, rfl⟩, fun q => absurd q (by omega), fun q => absurd q (by omega), fun q => absurd q (by omega), fun q => absurd q (by omega), by omega, Or.inl (by omega)⟩
      · rw [e0, hek, if_pos (by omega)]
        exact hy
    · refine vx_CV_mono (vc_27 hT ht hn (by omega) (by omega) (by omega) (by omega)) (fun h15 p T15 => vc_31_521 T15 (by omega) ?_)
      rw [hx] at p
      refine ⟨6, 0, a, p, ?_, fun q => ?_⟩
      · rw [e0, hek, if_neg (by omega)]
        exact vt_rt_bad
      · rw [e0, hek, if_neg (by omega)] at q
        exact absurd rfl q
  intro m
  induction m with
  | zero =>
    intro k y a hy hm hik hk he ha
    have hek : vt_end (vt_wb 1) c n i = k := by rw [he, vt_end_ge (by omega)]
    have hs0 : vt_see c n k = 0 := by unfold vt_see; rw [if_neg (by omega)]
    refine vg_31_225 hT (vx_CI_mono (vc_22 hT X hy (by omega)) ?_)
    rintro r1 h1 hr1 ⟨rfl, hs, -⟩ -
    refine vx_CI_mono (vc_26 hT hr1) ?_
    rintro r2 h2 _ ⟨rfl, q2⟩ -
    exact ⟨fun q => F k y a hy hik hk hek ha, fun q => absurd q (by omega)⟩
  | succ m ih =>
    intro k y a hy hm hik hk he ha
    have hkn : k < n := by omega
    have hs0 := vt_see_in (c := c) hkn
    have hck := (X.2.2 k hkn).2
    have hA := A k hik hk
    rw [← ha] at hA
    refine vg_31_225 hT (vx_CI_mono (vc_22 hT X hy (by omega)) ?_)
    rintro r1 h1 hr1 ⟨rfl, hs, -⟩ -
    refine vx_CI_mono (vc_26 hT hr1) ?_
    rintro r2 h2 _ ⟨rfl, q2⟩ -
    refine ⟨fun q => F k y a hy hik hk ?_ ha, fun q => ?_⟩
    · rw [he, vt_end_f (decide_eq_false (by omega))]
    · have he2 : vt_end (vt_wb 1) c n i = vt_end (vt_wb 1) c n (k + 1) := by rw [he, vt_end_t hkn (decide_eq_true (by omega))]
      refine ⟨by omega, fun q7 => ih (k + 1) (y + 1) a (by omega) (by omega) (by omega) (by omega) he2 ?_, fun q7 => vx_CI_mono (vc_22 hT X hy (by omega)) ?_⟩
      · rw [ha, show min (k + 1 - i) 5 = 5 by omega, show min (k - i) 5 = 5 by omega]
      · rintro r6 h6 _ ⟨rfl, hs6, -⟩ -
        refine ih (k + 1) (y + 1) _ (by omega) (by omega) (by omega) (by omega) he2 ?_
        rw [show min (k - i) 5 = k - i by omega] at ha
        rw [vx_lor8 (by omega) (by omega), show min (k + 1 - i) 5 = (k - i) + 1 by omega, vt_rf_snoc, show i + (k - i) = k by omega, ← ha]
        omega
end
