/-! The reference's tokens: signs; all tokens -/
theorem vt_pair_e (x y : Int) : (x = 58 ∧ y = 45 → vt_pair x y = 10) ∧ (x = 33 ∧ y = 61 → vt_pair x y = 11) ∧ (x = 60 ∧ y = 61 → vt_pair x y = 12) ∧ (x = 62 ∧ y = 61 → vt_pair x y = 13) ∧ (¬ (x = 58 ∧ y = 45) ∧ ¬ (x = 33 ∧ y = 61) ∧ ¬ (x = 60 ∧ y = 61) ∧ ¬ (x = 62 ∧ y = 61) → vt_pair x y = -1) := by
  unfold vt_pair
  refine ⟨fun q => if_pos q, fun q => ?_, fun q => ?_, fun q => ?_, fun q => ?_⟩
  · rw [if_neg (by omega), if_pos q]
  · rw [if_neg (by omega), if_neg (by omega), if_pos q]
  · rw [if_neg (by omega), if_neg (by omega), if_neg (by omega), if_pos q]
  · rw [if_neg q.1, if_neg q.2.1, if_neg q.2.2.1, if_neg q.2.2.2]
section
variable {d : Nat} {h : ve_H} {x y z : Int}
theorem vc_31_475 {n T i : Nat} {c : Nat → Int} {x v3 v4 v6 v7 v8 : Int} (hT : vx_T 625 672 h) (X : vt_tr h n c) (ht : vx_J h 625 5 = T) (hn : T < 602) (hx : x = i) (hi : i < n) (h3 : v3 = (i : Int) + 1) (hd : ¬ (97 ≤ c i ∧ c i ≤ 122) ∧ ¬ (65 ≤ c i ∧ c i ≤ 90) ∧ ¬ (48 ≤ c i ∧ c i ≤ 57)) (h7 : (v7 = 0 ∧ vt_pair (c i) (vt_see c n (i + 1)) = -1) ∨ (v7 = vt_pair (c i) (vt_see c n (i + 1)) + 290 ∧ vt_pair (c i) (vt_see c n (i + 1)) ≠ -1)) (h8 : (v8 = 1 ∧ vt_sg (c i)) ∨ (v8 = 0 ∧ ¬ vt_sg (c i))) :
    vx_W (d + 1) 31 475 [some (.ref 625), some (.int (vx_i x)), some (.int (vx_i (c i))), some (.int (vx_i v3)), some (.long (vx_l v4)), none, some (.int (vx_i v6)), some (.int (vx_i v7)), some (.int (vx_i v8))] [] h (vx_RI (vt_o1 c n i T h)) := by
  have hn6 := X.2.1
  have hc := (X.2.2 i hi).2
  have hpr := vt_pair_r (c i) (vt_see c n (i + 1))
  have e0 : vt_tok c n i = if vt_pair (c i) (vt_see c n (i + 1)) ≠ -1 then (vt_pair (c i) (vt_see c n (i + 1)), 0, i + 2) else if vt_sg (c i) then (c i, 0, i + 1) else (1, 0, n) := by
    unfold vt_tok
    rw [if_neg hd.1, if_neg hd.2.1, if_neg hd.2.2]
  refine vg_31_475 hT ⟨by omega, fun q => ?_, fun q => ⟨by omega, fun q8 => ?_, fun q8 => ?_⟩⟩
  · refine vx_CV_mono (vc_27 hT ht hn (by omega) (by omega) (by omega) (by omega)) (fun h6 p T6 => vc_31_521 T6 (by omega) ?_)
    rw [hx] at p
    refine ⟨4, v7, 0, p, ?_, fun _ => ?_⟩
    · rw [e0, if_pos (by omega)]
      show vt_rt (vt_pair (c i) (vt_see c n (i + 1))) 0 4 v7 0
      unfold vt_rt
      refine ⟨fun q => absurd q (by omega), fun q => absurd q (by omega), fun q => absurd q (by omega), fun q => absurd q (by omega), fun q => absurd q (by omega), fun q => absurd q (by omega), fun _ => ⟨rfl, by omega⟩, fun q => absurd q (by omega), by omega, Or.inl (by omega)⟩
    · rw [e0, if_pos (by omega)]
      show v3 + 1 = ((i + 2 : Nat) : Int)
      omega
  · refine vx_CV_mono (vc_27 hT ht hn (by omega) (by omega) (by omega) (by omega)) (fun h6 p T6 => vc_31_521 T6 (by omega) ?_)
    rw [hx] at p
    refine ⟨6, c i, 0, p, ?_, fun qb => ?_⟩
    · rw [e0, if_neg (by omega), if_neg (by omega)]
      exact vt_rt_bad
    · rw [e0, if_neg (by omega), if_neg (by omega)] at qb
      exact absurd rfl qb
  · refine vx_CV_mono (vc_27 hT ht hn (by omega) (by omega) (by omega) (by omega)) (fun h6 p T6 => vc_31_521 T6 (by omega) ?_)
    rw [hx] at p
    refine ⟨4, c i, 0, p, ?_, fun _ => ?_⟩
    · rw [e0, if_neg (by omega), if_pos (by omega)]
      show vt_rt (c i) 0 4 (c i) 0
      unfold vt_rt
      refine ⟨fun q => absurd q (by omega), fun q => absurd q (by omega), fun q => absurd q (by omega), fun q => absurd q (by omega), fun q => absurd q (by omega), fun q => absurd q (by omega), fun q => absurd q (by omega), fun _ => ⟨rfl, rfl, by omega⟩, by omega, Or.inr (by omega)⟩
    · rw [e0, if_neg (by omega), if_pos (by omega)]
      show v3 + 0 = ((i + 1 : Nat) : Int)
      omega
theorem vc_31_378 {n T i : Nat} {c : Nat → Int} {x v3 v4 v6 v7 : Int} (hT : vx_T 625 672 h) (X : vt_tr h n c) (ht : vx_J h 625 5 = T) (hn : T < 602) (hx : x = i) (hi : i < n) (h3 : v3 = (i : Int) + 1) (hd : ¬ (97 ≤ c i ∧ c i ≤ 122) ∧ ¬ (65 ≤ c i ∧ c i ≤ 90) ∧ ¬ (48 ≤ c i ∧ c i ≤ 57)) (h7 : (v7 = 0 ∧ vt_pair (c i) (vt_see c n (i + 1)) = -1) ∨ (v7 = vt_pair (c i) (vt_see c n (i + 1)) + 290 ∧ vt_pair (c i) (vt_see c n (i + 1)) ≠ -1)) :
    vx_W (d + 1) 31 378 [some (.ref 625), some (.int (vx_i x)), some (.int (vx_i (c i))), some (.int (vx_i v3)), some (.long (vx_l v4)), none, some (.int (vx_i v6)), some (.int (vx_i v7)), none] [] h (vx_RI (vt_o1 c n i T h)) := by
  have hc := (X.2.2 i hi).2
  have K : ∀ v8 : Int, (v8 = 1 ∧ vt_sg (c i)) ∨ (v8 = 0 ∧ ¬ vt_sg (c i)) → vx_W (d + 1) 31 475 [some (.ref 625), some (.int (vx_i x)), some (.int (vx_i (c i))), some (.int (vx_i v3)), some (.long (vx_l v4)), none, some (.int (vx_i v6)), some (.int (vx_i v7)), some (.int (vx_i v8))] [] h (vx_RI (vt_o1 c n i T h)) := fun v8 h8 => vc_31_475 hT X ht hn hx hi h3 hd h7 h8
  refine vg_31_378 hT (And.intro (by omega) ?_)
  repeat' (first | (refine And.intro ?_ ?_) | (refine fun _ => ?_))
  all_goals exact K _ (by omega)
theorem vc_31 {n T i : Nat} {c : Nat → Int} (hT : vx_T 625 672 h) (X : vt_tr h n c) (ht : vx_J h 625 5 = T) (hn : T < 602) (hx : x = i) (hi : i < n) : vx_CI (d + 2) 31 [.ref 625, .int (vx_i x)] h (vt_o1 c n i T h) := by
  have hn6 := X.2.1
  have hc := X.2.2 i hi
  refine vg_31 hT (And.intro (by omega) ?_)
  rw [show x.toNat = i by omega, hc.1]
  refine vx_CI_mono (vc_23 hT (by omega)) ?_
  rintro r2 h2 _ ⟨rfl, q2⟩ -
  refine And.intro (fun z2 => vx_CI_mono (vc_24 hT (by omega)) ?_) (fun z2 => And.intro (by omega) ?_)
  · rintro r4 h4 _ ⟨rfl, q4⟩ -
    refine And.intro (fun z4 => vx_CI_mono (vc_25 hT (by omega)) ?_) (fun z4 => ?_)
    · rintro r6 h6 _ ⟨rfl, q6⟩ -
      refine And.intro (fun z6 => vx_CI_mono (vc_22 (k := i + 1) hT X (by omega) (by omega)) ?_) (fun z6 => ?_)
      · rintro r8 h8 _ ⟨rfl, hs8, hr8⟩ -
        have K : ∀ v7 : Int, ((v7 = 0 ∧ vt_pair (c i) (vt_see c n (i + 1)) = -1) ∨ (v7 = vt_pair (c i) (vt_see c n (i + 1)) + 290 ∧ vt_pair (c i) (vt_see c n (i + 1)) ≠ -1)) → vx_W (d + 2) 31 378 [some (.ref 625), some (.int (vx_i x)), some (.int (vx_i (c i))), some (.int (vx_i (x + 1))), some (.long (vx_l (c i))), none, some (.int (vx_i r8)), some (.int (vx_i v7)), none] [] h8 (vx_RI (vt_o1 c n i T h8)) := fun v7 h7 => vc_31_378 hT X ht hn hx hi (by omega) (by omega) h7
        have hpe := vt_pair_e (c i) (vt_see c n (i + 1))
        rw [← hs8] at hpe K
        generalize vt_pair (c i) r8 = pr at hpe K
        clear hs8
        repeat' (first | (refine And.intro ?_ ?_) | (refine fun _ => ?_))
        all_goals first | (exfalso; omega) | exact K _ (by omega)
      · exact vc_31_225 hT X ht hn hx hi (by omega) (n - (i + 1)) (i + 1) _ _ (by omega) rfl (by omega) (by omega) (vt_end_t hi (decide_eq_true (by omega))) (by rw [show min (i + 1 - i) 5 = 1 by omega]; show c i = 0 * 256 + c i; omega)
    · exact vc_31_110 hT X ht hn hx hi (by omega) (n - (i + 1)) (i + 1) _ _ (by omega) rfl (by omega) (by omega) (vt_end_t hi (decide_eq_true (by omega))) (by rw [show min (i + 1 - i) 7 = 1 by omega]; show c i = 0 * 256 + c i; omega)
  · exact vc_31_29 hT X ht hn hx hi (by omega) (n - (i + 1)) (i + 1) _ _ (by omega) rfl (by omega) (by omega) (vt_end_t hi (decide_eq_true (by omega))) (by rw [show min (i + 1 - i) 9 = 1 by omega]; show c i - 48 = 0 * 10 + (c i - 48); omega) (fun j h1 h2 => by rw [show j = i by omega]; omega)
end
/-- the reference's tokens from T on, against the list -/
def vt_kr (h : ve_H) (T : Nat) (ts : List (Int × Int × Int)) : Prop := ∀ j, j < ts.length → vx_J h 628 (T + j) = (ts.getD j (0, 0, 0)).2.1 ∧ vt_rt (ts.getD j (0, 0, 0)).1 (ts.getD j (0, 0, 0)).2.2 (vx_J h 627 (T + j)) (vx_J h 629 (T + j)) (vx_K h 630 (T + j))
theorem vt_kr_cons {h h1 : ve_H} {T : Nat} {kd pl ct kr cr vr : Int} {ts : List (Int × Int × Int)} (f : vx_fr (vt_R (T + 1)) h h1) (hk : vx_J h 627 T = kr) (hc : vx_J h 629 T = cr) (hp : vx_J h 628 T = pl) (hv : vx_K h 630 T = vr) (hr : vt_rt kd ct kr cr vr) (t : vt_kr h1 (T + 1) ts) : vt_kr h1 T ((kd, pl, ct) :: ts) := by
  intro j hj
  cases j with
  | zero =>
    refine ⟨(vx_fr_J f (by omega)).trans hp, ?_⟩
    show vt_rt kd ct (vx_J h1 627 T) (vx_J h1 629 T) (vx_K h1 630 T)
    rw [vx_fr_J f (by omega), vx_fr_J f (by omega), vx_fr_K f (by omega), hk, hc, hv]
    exact hr
  | succ j =>
    have := t j (Nat.lt_of_succ_lt_succ hj)
    rw [show T + 1 + j = T + (j + 1) by omega] at this
    exact this
theorem vt_toks_end {c : Nat → Int} {n : Nat} : ∀ f, vt_toks c n f n = [(0, (n : Int), 0)]
  | 0 => rfl
  | f + 1 => if_neg (Nat.lt_irrefl n)
theorem vt_tok_bad {c : Nat → Int} {n i : Nat} (hc : 32 ≤ c i ∧ c i ≤ 126) (h : (vt_tok c n i).1 = 1) : (vt_tok c n i).2.2 = n := by
  unfold vt_tok at *
  split
  · rename_i q
    rw [if_pos q] at h
    split
    · rename_i q2
      rw [if_pos q2] at h
      have h : vt_nk (vt_nm c (vt_end (vt_wb 0) c n i) i) = 1 := h
      unfold vt_nk at h
      (repeat' split at h) <;> omega
    · rfl
  rename_i q1
  rw [if_neg q1] at h
  split
  · rename_i q
    rw [if_pos q] at h
    split
    · rename_i q2
      rw [if_pos q2] at h
      have h : (3 : Int) = 1 := h
      omega
    · rfl
  rename_i q2
  rw [if_neg q2] at h
  split
  · rename_i q
    rw [if_pos q] at h
    split
    · rename_i q3
      rw [if_pos q3] at h
      have h : (4 : Int) = 1 := h
      omega
    · rfl
  rename_i q3
  rw [if_neg q3] at h
  split
  · rename_i q
    rw [if_pos q] at h
    have h : vt_pair (c i) (vt_see c n (i + 1)) = 1 := h
    have := vt_pair_r (c i) (vt_see c n (i + 1))
    omega
  rename_i q4
  rw [if_neg q4] at h
  split
  · rename_i q
    rw [if_pos q] at h
    have h : c i = 1 := h
    omega
  · rfl
theorem vt_rt_end : vt_rt 0 0 0 0 0 := by
  unfold vt_rt
  refine ⟨fun _ => rfl, fun q => absurd q (by omega), fun q => absurd q (by omega), fun q => absurd q (by omega), fun q => absurd q (by omega), fun q => absurd q (by omega), fun q => absurd q (by omega), fun q => absurd q (by omega), by omega, Or.inl (by omega)⟩
theorem vc_30_9 {d n : Nat} {c : Nat → Int} : ∀ (f i T : Nat) (h : ve_H) (x : Int), x = i → n - i ≤ f → T ≤ i → i ≤ n → vx_T 625 672 h → vt_tr h n c → vx_J h 625 5 = T →
    vx_W (d + 3) 30 9 [some (.ref 625), some (.int (vx_i x)), some (.int (vx_i 1))] [] h (vx_RV (fun h1 => vx_fr (vt_R T) h h1 ∧ vt_kr h1 T (vt_toks c n f i) ∧ vx_J h1 625 5 = ((T + (vt_toks c n f i).length : Nat) : Int))) := by
  intro f
  have E : ∀ (T : Nat) (h : ve_H), T ≤ n → vx_T 625 672 h → vt_tr h n c → vx_J h 625 5 = T → vx_CV (d + 2) 27 [.ref 625, .int (vx_i 0), .int (vx_i 0), .int (vx_i (vx_J h 625 2)), .long (vx_l 0)] h (fun h3 => vx_T 625 672 h3 → vx_fr (vt_R T) h h3 ∧ vt_kr h3 T [(0, (n : Int), 0)] ∧ vx_J h3 625 5 = ((T + [((0 : Int), (n : Int), (0 : Int))].length : Nat) : Int)) := by
    intro T h hTn hT X ht
    have hn := X.2.1
    rw [X.1]
    refine vx_CV_mono (vc_27 hT ht (by omega) (by omega) (by omega) (by omega) (by omega)) ?_
    rintro h3 ⟨f3, t3, k3, c3, p3, v3⟩ _
    refine ⟨f3, fun j hj => ?_, by rw [t3]; rfl⟩
    have hj0 : j = 0 := Nat.lt_one_iff.mp hj
    subst hj0
    refine ⟨p3, ?_⟩
    show vt_rt 0 0 (vx_J h3 627 T) (vx_J h3 629 T) (vx_K h3 630 T)
    rw [k3, c3, v3]
    exact vt_rt_end
  induction f with
  | zero =>
    intro i T h x hx hf hTi hi hT X ht
    have hn := X.2.1
    refine vg_30_9 hT ⟨by omega, fun q => absurd q (by omega), fun _ => ⟨by omega, fun _ => E T h (by omega) hT X ht, fun q => absurd q (by rw [X.1]; omega)⟩⟩
  | succ f ih =>
    intro i T h x hx hf hTi hi hT X ht
    have hn := X.2.1
    refine vg_30_9 hT ⟨by omega, fun q => absurd q (by omega), fun _ => ⟨by omega, fun q => ?_, fun q => ⟨by rw [X.1] at q; omega, ?_⟩⟩⟩
    · rw [X.1] at q
      have e0 : vt_toks c n (f + 1) i = [(0, (n : Int), 0)] := if_neg (by omega)
      rw [e0]
      exact E T h (by omega) hT X ht
    · rw [X.1] at q
      have hin : i < n := by omega
      have hc := X.2.2 i hin
      rw [show x.toNat = i by omega, hc.1]
      refine ⟨fun q2 => ?_, fun q2 => ?_⟩
      · have e0 : vt_toks c n (f + 1) i = ((vt_tok c n i).1, (i : Int), (vt_tok c n i).2.1) :: vt_toks c n f (vt_tok c n i).2.2 := by
          show (if i < n then (if c i = 32 then vt_toks c n f (i + 1) else _) else _) = _
          rw [if_pos hin, if_neg q2]
        have hnx := vt_tok_next (c := c) hin
        refine vx_CI_mono (vc_31 (d := d) hT X ht (by omega) hx hin) ?_
        rintro r9 h9 _ ⟨kr, cr, vr, ⟨f9, t9, k9, c9, p9, v9⟩, hrt, hrn⟩ T9
        have X9 := vt_tr_fr X f9
        rw [t9, show ((T : Int) + 1 - 1).toNat = T by omega, k9]
        have D : ∀ h1, vx_fr (vt_R (T + 1)) h9 h1 → vt_kr h1 (T + 1) (vt_toks c n f (vt_tok c n i).2.2) → vx_J h1 625 5 = ((T + 1 + (vt_toks c n f (vt_tok c n i).2.2).length : Nat) : Int) → vx_fr (vt_R T) h h1 ∧ vt_kr h1 T (vt_toks c n (f + 1) i) ∧ vx_J h1 625 5 = ((T + (vt_toks c n (f + 1) i).length : Nat) : Int) := by
          intro h1 g1 g2 g3
          refine ⟨vx_fr_trans f9 (vx_fr_mono g1 (by omega)), ?_, ?_⟩
          · rw [e0]
            exact vt_kr_cons g1 k9 c9 p9 v9 hrt g2
          · rw [e0, g3, List.length_cons]
            omega
        refine ⟨by omega, fun q6 => ?_, fun q6 => ?_⟩
        · -- a bad one: the loop ends
          have hb : (vt_tok c n i).1 = 1 := by
            obtain ⟨a0, a1, a2, a3, a4, a5, a6, a7, a8, a9⟩ := hrt
            by_cases z0 : (vt_tok c n i).1 = 0
            · have := a0 z0; omega
            by_cases z1 : (vt_tok c n i).1 = 1
            · exact z1
            by_cases z2 : (vt_tok c n i).1 = 2
            · have := (a2 z2).1; omega
            by_cases z3 : (vt_tok c n i).1 = 3
            · have := (a3 z3).1; omega
            by_cases z4 : (vt_tok c n i).1 = 4
            · have := (a4 z4).1; omega
            by_cases z5 : (vt_tok c n i).1 ≤ 9
            · have := (a5 (by omega)).1; omega
            by_cases z6 : (vt_tok c n i).1 ≤ 13
            · have := (a6 (by omega)).1; omega
            · have := (a7 (by omega)).1; omega
          have hbn := vt_tok_bad hc.2 hb
          refine vg_30_9 T9 ⟨by omega, fun _ => ?_, fun q => absurd rfl q⟩
          refine vx_CV_mono (E (T + 1) h9 (by omega) T9 X9 t9) (fun h3 p T3 => ?_)
          obtain ⟨g1, g2, g3⟩ := p T3
          refine D h3 g1 ?_ ?_
          · rw [hbn, vt_toks_end]; exact g2
          · rw [hbn, vt_toks_end]; exact g3
        · have hb : (vt_tok c n i).1 ≠ 1 := fun e => q6 (hrt.2.1 e)
          refine vx_mono (ih (vt_tok c n i).2.2 (T + 1) h9 _ (hrn hb) (by omega) (by omega) hnx.2 T9 X9 t9) ?_
          rintro o h1 ⟨rfl, g1, g2, g3⟩
          exact ⟨rfl, D h1 g1 g2 g3⟩
      · have e0 : vt_toks c n (f + 1) i = vt_toks c n f (i + 1) := by
          show (if i < n then (if c i = 32 then vt_toks c n f (i + 1) else _) else _) = _
          rw [if_pos hin, if_pos q2]
        rw [e0]
        exact ih (i + 1) T h (x + 1) (by omega) (by omega) (by omega) (by omega) hT X ht
theorem vc_30 {d n : Nat} {c : Nat → Int} {h : ve_H} (hT : vx_T 625 672 h) (X : vt_tr h n c) : vx_CV (d + 3) 30 [.ref 625] h (fun h1 => vx_fr (vt_R 0) h h1 ∧ vt_kr h1 0 (vt_toks c n 600 0) ∧ vx_J h1 625 5 = ((vt_toks c n 600 0).length : Int)) := by
  have hn := X.2.1
  refine vg_30 hT (fun h1 e1 T1 => ?_)
  have f1 : vx_fr (vt_R 0) h h1 := vx_fr_sJ vx_fr_refl e1 (by omega)
  refine vx_mono (vc_30_9 600 0 0 h1 0 rfl (by omega) (by omega) (by omega) T1 (vt_tr_fr X f1) (by rw [e1, vx_J_eq (by omega)]; rfl)) ?_
  rintro o h2 ⟨rfl, g1, g2, g3⟩
  exact ⟨rfl, vx_fr_trans f1 g1, g2, by rw [g3, Nat.zero_add]⟩
