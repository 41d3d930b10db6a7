/-! Reading arguments: the reference's loop -/
section
variable {d i cl : Nat} {h : ve_H} {ts : vy_T} {V : vy_V} {O : vy_O} {x y : Int}
theorem vy_fi_step {j : Nat} {W : vy_V} {h1 : ve_H} (ok : vy_ok ts) (f : vy_fi h ts i V O) (hi : i < j) (hj : j < ts.length) (hW : W = V ∨ (W = vy_va V (vy_v ts i) (vy_p ts i))) (h53 : vx_J h1 625 53 = if W.1 ≠ V.1 ∧ V.1 = 0 then vy_p ts i else vx_J h 625 53) : vy_fi h1 ts j W O := by
  have a2 := ok.2.2.2.2.1 i j hi hj
  have hp := ok.2.2.2.1 i (by omega)
  obtain ⟨f1, f2, f3⟩ := f
  rcases hW with e | e
  · subst e
    rw [if_neg (fun t => t.1 rfl)] at h53
    exact ⟨h53.trans f1, f2, fun v hv => ⟨(f3 v hv).1, by have := (f3 v hv).2; omega⟩⟩
  · have hne : W.1 ≠ V.1 := by rw [e]; show V.1 + 1 ≠ V.1; omega
    subst e
    refine ⟨?_, fun q => ⟨by show 1 ≤ V.1 + 1; omega, (f2 q).2⟩, fun v hv => ?_⟩
    · rw [h53]
      by_cases c : V.1 = 0
      · rw [if_pos ⟨hne, c⟩]
        have hO : ¬ O.1 ≠ -1 := fun q => by have := (f2 q).1; omega
        unfold vy_ff
        rw [if_neg (fun t => hO t.1), if_neg (show ¬ (vy_va V (vy_v ts i) (vy_p ts i)).1 = 0 from Nat.succ_ne_zero _)]
        show vy_p ts i = if (0 : Nat) = V.1 then vy_p ts i else V.2.2 0
        rw [if_pos c.symm]
      · rw [if_neg (fun t => c t.2), f1]
        unfold vy_ff
        have e0 : (vy_va V (vy_v ts i) (vy_p ts i)).2.2 0 = V.2.2 0 := by
          show (if (0 : Nat) = V.1 then vy_p ts i else V.2.2 0) = V.2.2 0
          rw [if_neg (fun t => c t.symm)]
        rw [e0]
        show (if O.1 ≠ -1 ∧ (V.1 = 0 ∨ O.2.2 < V.2.2 0) then O.2.2 else if V.1 = 0 then -1 else V.2.2 0) = (if O.1 ≠ -1 ∧ (V.1 + 1 = 0 ∨ O.2.2 < V.2.2 0) then O.2.2 else if V.1 + 1 = 0 then -1 else V.2.2 0)
        rw [if_neg (show ¬ V.1 + 1 = 0 by omega), if_neg c]
        by_cases c2 : O.1 ≠ -1 ∧ O.2.2 < V.2.2 0
        · rw [if_pos ⟨c2.1, Or.inr c2.2⟩, if_pos ⟨c2.1, Or.inr c2.2⟩]
        · rw [if_neg (fun t => by rcases t.2 with u | u; exact c u; exact c2 ⟨t.1, u⟩), if_neg (fun t => by rcases t.2 with u | u; omega; exact c2 ⟨t.1, u⟩)]
    · have hv : v < V.1 + 1 := hv
      show 0 ≤ (if v = V.1 then vy_p ts i else V.2.2 v) ∧ (if v = V.1 then vy_p ts i else V.2.2 v) < vy_p ts j
      by_cases c : v = V.1
      · rw [if_pos c]; omega
      · rw [if_neg c]
        have := f3 v (by omega)
        omega
theorem vy_va_ne {x p : Int} : vy_va V x p ≠ V := by
  intro e
  have : V.1 + 1 = V.1 := congrArg (fun t : vy_V => t.1) e
  omega
/-- the token behind a term lies behind it -/
theorem vy_tm_lt {any : Bool} {q : Int × Nat × vy_V} (e : vy_tm ts any i V = .inr q) : i < q.2.1 := by
  unfold vy_tm at e
  split at e
  · split at e
    · cases e; show i < i + 2; omega
    · cases e
  split at e
  · cases e; show i < i + 1; omega
  split at e
  · split at e
    · cases e; show i < i + 1; omega
    split at e
    · cases e; show i < i + 1; omega
    · cases e
  split at e
  · cases e; show i < i + 1; omega
  · cases e
theorem vy_tm_new {any : Bool} {q : Int × Nat × vy_V} (hk : vy_k ts i = 3) (h0 : V.1 = 0) (e : vy_tm ts any i V = .inr q) : q.2.2.1 ≠ V.1 := by
  unfold vy_tm at e
  rw [if_neg (by omega), if_neg (by omega), if_pos hk, if_neg (by omega), if_pos (by omega)] at e
  cases e
  show V.1 + 1 ≠ V.1
  omega
theorem vy_tm_new3 {any : Bool} {q : Int × Nat × vy_V} (hk : vy_k ts i = 3) (e : vy_tm ts any i V = .inr q) : V.1 = 0 → q.2.2 = vy_va V (vy_v ts i) (vy_p ts i) := by
  intro h0
  unfold vy_tm at e
  rw [if_neg (by omega), if_neg (by omega), if_pos hk, if_neg (by omega), if_pos (by omega)] at e
  cases e
  rfl
/-- a total's variable -/
theorem vy_fi_tot {j : Nat} {W : vy_V} {h1 : ve_H} {ta : Int} (ok : vy_ok ts) (hkt : vy_k ts i ≠ -1) (f : vy_fi h ts i V O) (hO : O.1 = -1) (hi : i + 2 < j) (hj : j + 1 < ts.length) (hW : W = V ∨ (vy_k ts (i + 2) = 3 ∧ W = vy_va V (vy_v ts (i + 2)) (vy_p ts (i + 2)))) (hN : V.1 = 0 → W = vy_va V (vy_v ts (i + 2)) (vy_p ts (i + 2))) (h53 : vx_J h1 625 53 = if V.1 = 0 then vy_p ts i else vx_J h 625 53) : vy_fi h1 ts (j + 1) W (vy_k ts i, ta, vy_p ts i) := by
  have a1 := ok.2.2.2.2.1 i (i + 2) (by omega) (by omega)
  have a2 := ok.2.2.2.2.1 (i + 2) (j + 1) (by omega) hj
  have hp := ok.2.2.2.1 i (by omega)
  obtain ⟨f1, f2, f3⟩ := f
  have f1 : vx_J h 625 53 = if V.1 = 0 then -1 else V.2.2 0 := by
    rw [f1]
    unfold vy_ff
    rw [if_neg (fun t => t.1 hO)]
  by_cases c : V.1 = 0
  · have hW := hN c
    subst hW
    rw [if_pos c] at h53
    refine ⟨?_, fun _ => ⟨by show 1 ≤ V.1 + 1; omega, hp.1⟩, fun v hv => ?_⟩
    · rw [h53]
      unfold vy_ff
      have e0 : (vy_va V (vy_v ts (i + 2)) (vy_p ts (i + 2))).2.2 0 = vy_p ts (i + 2) := by
        show (if (0 : Nat) = V.1 then vy_p ts (i + 2) else V.2.2 0) = _
        rw [if_pos c.symm]
      rw [e0, if_pos ⟨hkt, Or.inr a1⟩]
    · have hv : v < V.1 + 1 := hv
      show 0 ≤ (if v = V.1 then vy_p ts (i + 2) else V.2.2 v) ∧ (if v = V.1 then vy_p ts (i + 2) else V.2.2 v) < vy_p ts (j + 1)
      rw [if_pos (by omega)]
      omega
  · rw [if_neg c, f1, if_neg c] at h53
    have v0 := f3 0 (by omega)
    have W0 : 1 ≤ W.1 ∧ W.2.2 0 = V.2.2 0 ∧ ∀ v, v < W.1 → 0 ≤ W.2.2 v ∧ W.2.2 v < vy_p ts (j + 1) := by
      rcases hW with e | ⟨-, e⟩
      · rw [e]
        exact ⟨by omega, rfl, fun v hv => by have := f3 v hv; omega⟩
      · rw [e]
        refine ⟨by show 1 ≤ V.1 + 1; omega, ?_, fun v hv => ?_⟩
        · show (if (0 : Nat) = V.1 then vy_p ts (i + 2) else V.2.2 0) = _
          rw [if_neg (by omega)]
        · have hv : v < V.1 + 1 := hv
          show 0 ≤ (if v = V.1 then vy_p ts (i + 2) else V.2.2 v) ∧ (if v = V.1 then vy_p ts (i + 2) else V.2.2 v) < vy_p ts (j + 1)
          by_cases c2 : v = V.1
          · rw [if_pos c2]; omega
          · rw [if_neg c2]
            have := f3 v (by omega)
            omega
    refine ⟨?_, fun _ => ⟨W0.1, hp.1⟩, W0.2.2⟩
    rw [h53]
    unfold vy_ff
    rw [W0.2.1, if_neg (fun t => by have : vy_p ts i < V.2.2 0 := t.2.resolve_left (by omega); omega), if_neg (by omega)]
theorem vc_42_86 {hd any : Bool} {R : vy_R5} {P : Int → ve_H → Prop} {h0 : ve_H} {v1 v2 v3 : Int} (ok : vy_ok ts) (n1 : vx_J h0 625 3 ≠ 1) (hv1 : vx_rI v1 ∧ (v1 ≠ 0 ↔ hd = true)) (hv2 : vx_rI v2 ∧ (v2 ≠ 0 ↔ any = true)) (hxx : hd = true → any = false)
    (F : ∀ g p, R = .inl p → vx_fr (vy_Sq cl) h0 g → vy_rbad p g → P 0 g)
    (G : ∀ g j W Q A m, vx_T 625 672 g → R = .inr (j, W, Q, A, m) → vx_fr (vy_Sq cl) h0 g → vy_rx h0 g → vy_rb g ts cl j W → vx_J g 625 50 = (m : Nat) → vy_ro g Q → vy_ra g A m → (hd = true → vy_fi g ts j W Q) → vx_CI (d + 3) 36 [.ref 625, .int (vx_i 41)] g (fun r8 h8 => vx_T 625 672 h8 → ((r8 ≠ 0 → (0 ≤ v3 ∧ v3 < 602) ∧ (0 ≤ v3 ∧ v3 < 602) ∧ vx_CI (d + 3) 40 [.ref 625, .long (vx_l (vx_K h8 630 v3.toNat)), .int (vx_i (vx_J h8 625 50)), .int (vx_i (vx_J h8 628 v3.toNat)), .int (vx_i (vx_J h8 625 49))] h8 (fun r12 h12 => vx_T 625 672 h12 → (∀ h13, h13 = vx_sJ h12 625 57 r12 → vx_T 625 672 h13 → P 1 h13))) ∧ (r8 = 0 → P 0 h8)))) :
    ∀ (m i : Nat) (V : vy_V) (O : vy_O) (A : Nat → Int) (g : ve_H) (v4 : Option Value), m ≤ 4 → vx_T 625 672 g → vx_fr (vy_Sq cl) h0 g → vy_rx h0 g → vy_rb g ts cl i V → vx_J g 625 50 = 4 - (m : Int) → vy_ro g O → vy_ra g A (4 - m) → (hd = true → vy_fi g ts i V O) → R = vy_ar ts hd any m i V O A →
    vx_W (d + 4) 42 86 [some (.ref 625), some (.int (vx_i v1)), some (.int (vx_i v2)), some (.int (vx_i v3)), v4] [] g (vx_RI P) := by
  intro m
  induction m with
  | zero =>
    intro i V O A g v4 hm hT hf hrx B h50 C hA hff hR
    refine vg_42_86 hT ?_
    rw [h50]
    refine ⟨fun q => absurd (by omega) q, fun _ => vx_CI_mono (vc_33 (d := d + 2) hT ok B (by rw [hrx.1]; exact n1)) ?_⟩
    rintro r28 h28 _ ⟨rfl, f28, b28⟩ _
    exact ⟨Or.inl rfl, F h28 _ hR (vx_fr_trans hf (vx_fr_mono f28 (by intro a k q; omega))) b28⟩
  | succ m ih =>
    intro i V O A g v4 hm hT hf hrx B h50 C hA hff hR
    have hl := ok.2.1
    have hi := B.2.2.1
    have hkr := vy_kr B.1 hi
    have g1 : vx_J g 625 3 ≠ 1 := by rw [hrx.1]; exact n1
    have hV8 := B.2.2.2.2.2.2.1
    have hp := ok.2.2.2.1 i hi
    rw [show 4 - (m + 1) = 3 - m by omega] at hA
    -- behind a term: on to the next one, or to the end
    have E : ∀ (g2 : ve_H) (q : Int × Nat × vy_V) (Q : vy_O), vx_T 625 672 g2 → vx_fr (vy_Sq cl) h0 g2 → vy_rx h0 g2 → vy_rb g2 ts cl q.2.1 q.2.2 → vx_J g2 625 50 = 3 - (m : Int) → vy_ro g2 Q → vy_ra g2 A (3 - m) → vy_tr q.1 (vx_J g2 625 46) (vx_K g2 625 47) → (hd = true → vy_fi g2 ts q.2.1 q.2.2 Q) → R = (if vy_k ts q.2.1 = 44 then vy_ar ts hd any m (q.2.1 + 1) q.2.2 Q (vy_set A (3 - m) q.1) else .inr (q.2.1, q.2.2, Q, vy_set A (3 - m) q.1, 4 - m)) → ∀ v4 : Int, vx_W (d + 3 + 1) 42 317 [some (.ref 625), some (.int (vx_i v1)), some (.int (vx_i v2)), some (.int (vx_i v3)), some (.int (vx_i v4))] [] g2 (vx_RI P) := by
      intro g2 q Q T2 f2 x2 B2 c50 C2 A2 t2 ff2 hR2 v4
      refine vc_42_317 (d := d + 3) (m := m) (h0 := h0) (hd := hd) (any := any) (R := R) ok T2 (by omega) f2 x2 B2 c50 C2 A2 t2 ff2 ?_ ?_ (by omega)
      · intro g3 T3 q44 f3 x3 B3 c3 C3 A3 ff3
        rw [if_pos q44] at hR2
        exact ih (q.2.1 + 1) q.2.2 Q (vy_set A (3 - m) q.1) g3 _ (by omega) T3 f3 x3 B3 c3 C3 A3 ff3 hR2
      · intro g3 T3 q44 f3 x3 B3 c3 C3 A3 ff3
        rw [if_neg q44] at hR2
        exact G g3 q.2.1 q.2.2 Q (vy_set A (3 - m) q.1) (4 - m) T3 hR2 f3 x3 B3 (by rw [c3]; omega) C3 A3 ff3
    have c50 : vx_J g 625 50 = 3 - (m : Int) := by rw [h50]; omega
    -- an argument that isn't a total
    have PL : ¬ (hd = true ∧ 6 ≤ vy_k ts i ∧ vy_k ts i ≤ 9 ∧ O.1 = -1) → ∀ v4 : Int, v4 = vy_p ts i → vx_W (d + 3 + 1) 42 255 [some (.ref 625), some (.int (vx_i v1)), some (.int (vx_i v2)), some (.int (vx_i v3)), some (.int (vx_i v4))] [] g (vx_RI P) := by
      intro hn v4 hv4
      -- a second total is refused like any word
      have e0 : R = match vy_tm ts any i V with
        | .inl p => .inl p
        | .inr q => if vy_k ts q.2.1 = 44 then vy_ar ts hd any m (q.2.1 + 1) q.2.2 O (vy_set A (3 - m) q.1) else .inr (q.2.1, q.2.2, O, vy_set A (3 - m) q.1, 4 - m) := by
        rw [hR]
        by_cases c : hd = true ∧ 6 ≤ vy_k ts i ∧ vy_k ts i ≤ 9
        · have hO : O.1 ≠ -1 := fun t => hn ⟨c.1, c.2.1, c.2.2, t⟩
          have et : vy_tm ts any i V = .inl (vy_p ts i) := by
            unfold vy_tm
            rw [if_neg (by omega), if_neg (by omega), if_neg (by omega), if_neg (by omega)]
          rw [et]
          show (if hd = true ∧ 6 ≤ vy_k ts i ∧ vy_k ts i ≤ 9 then _ else _) = _
          rw [if_pos c, if_pos hO]
        · exact if_neg c
      have TMX : ¬ (any = true ∧ vy_k ts i = 95) → vx_CI (d + 3) 39 [.ref 625] g (fun r3 h3 => vx_T 625 672 h3 → ((r3 ≠ 0 → (((vx_J h3 625 46) ≠ 1 → vx_W (d + 3 + 1) 42 317 [some (.ref 625), some (.int (vx_i v1)), some (.int (vx_i v2)), some (.int (vx_i v3)), some (.int (vx_i v4))] [] h3 (vx_RI P)) ∧ ((vx_J h3 625 46) = 1 → (((vx_J h3 625 53) ≠ ((-1)) → vx_W (d + 3 + 1) 42 317 [some (.ref 625), some (.int (vx_i v1)), some (.int (vx_i v2)), some (.int (vx_i v3)), some (.int (vx_i v4))] [] h3 (vx_RI P)) ∧ ((vx_J h3 625 53) = ((-1)) → (∀ h7, h7 = vx_sJ h3 625 53 v4 → vx_T 625 672 h7 → vx_W (d + 3 + 1) 42 317 [some (.ref 625), some (.int (vx_i v1)), some (.int (vx_i v2)), some (.int (vx_i v3)), some (.int (vx_i v4))] [] h7 (vx_RI P))))))) ∧ (r3 = 0 → P 0 h3))) := by
        intro h95
        refine vx_CI_mono (vc_39 (d := d) hT ok B g1) ?_
        rintro r3 h3 _ ⟨f3, p3⟩ T3
        have F3 : vx_fr (vy_Sq cl) h0 h3 := vx_fr_trans hf (vx_fr_mono f3 (by intro a k q; omega))
        rw [← vy_tm_any h95] at p3
        cases et : vy_tm ts any i V with
        | inl p =>
          rw [et] at p3 e0
          obtain ⟨rfl, b3⟩ := p3
          exact ⟨fun q => absurd rfl q, fun _ => F h3 p e0 F3 b3⟩
        | inr q =>
          rw [et] at p3 e0
          obtain ⟨rfl, t3, k3, x3, B3, i3⟩ := p3
          have X3 : vy_rx h0 h3 := ⟨x3.1.trans hrx.1, x3.2.trans hrx.2⟩
          have n3 : vx_J h3 625 50 = 3 - (m : Int) := (vx_fr_J f3 (by omega)).trans c50
          have C3 := vy_ro_fr C f3 (by omega)
          have A3 := vy_ra_fr hA f3 (fun k => by omega)
          have hlt := vy_tm_lt et
          have hVV := (vy_tm_V hV8 et).1
          have f53 : vx_J h3 625 53 = vx_J g 625 53 := vx_fr_J f3 (by omega)
          have NEW : q.2.2.1 ≠ V.1 → vx_J h3 625 46 = 1 := fun u => i3.mpr (hVV.resolve_left (fun e => u (by rw [e]))).1
          have FI : ∀ h7, vx_J h7 625 53 = (if q.2.2.1 ≠ V.1 ∧ V.1 = 0 then vy_p ts i else vx_J g 625 53) → hd = true → vy_fi h7 ts q.2.1 q.2.2 O := fun h7 e7 t => vy_fi_step ok (hff t) hlt B3.2.2.1 (hVV.imp id (fun u => u.2)) e7
          refine ⟨fun _ => ⟨fun q46 => E h3 q O T3 F3 X3 B3 n3 C3 A3 t3 (FI h3 ?_) e0 v4, fun q46 => ⟨fun q53 => E h3 q O T3 F3 X3 B3 n3 C3 A3 t3 (fun t => FI h3 ?_ t) e0 v4, fun q53 h7 e7 T7 => ?_⟩⟩, fun q => absurd q (by omega)⟩
          · rw [f53, if_neg (fun t => q46 (NEW t.1))]
          · rw [f53]
            have := hff t
            rw [f53, this.1] at q53
            rw [if_neg (fun u => q53 ((vy_ff_none this.2.1 (fun v hv => (this.2.2 v hv).1)).mpr u.2))]
          · have f7 : vx_fr (fun a k => a = 625 ∧ k = 53) h3 h7 := vx_fr_sJ vx_fr_refl e7 ⟨rfl, rfl⟩
            have t7 : vy_tr q.1 (vx_J h7 625 46) (vx_K h7 625 47) := by rw [vx_fr_J f7 (by omega), vx_fr_K f7 (by omega)]; exact t3
            refine E h7 q O T7 (vx_fr_trans F3 (vx_fr_mono f7 (by intro a k q; omega))) ⟨(vx_fr_J f7 (by omega)).trans X3.1, (vx_fr_J f7 (by omega)).trans X3.2⟩ (vy_rb_fr B3 f7 (fun k => by omega) (by omega) (by omega)) ((vx_fr_J f7 (by omega)).trans n3) (vy_ro_fr C3 f7 (by omega)) (vy_ra_fr A3 f7 (fun k => by omega)) t7 (fun t => FI h7 ?_ t) e0 v4
            have := hff t
            rw [f53, this.1] at q53
            have hV0 := (vy_ff_none this.2.1 (fun v hv => (this.2.2 v hv).1)).mp q53
            have hnw := vy_tm_new (i3.mp q46) hV0 et
            rw [e7, vx_J_eq (by omega), hv4, if_pos ⟨hnw, hV0⟩]
      -- with or without _
      refine vg_42_255 hT ⟨hv2.1, fun q2 => TMX (fun t => absurd (hv2.2.mpr t.1) (fun u => u q2)), fun q2 => vx_CI_mono (vc_34 (s := 95) hT ok B (by omega) rfl) ?_⟩
      rintro r8 h8 _ ⟨rfl, hr8⟩ _
      refine ⟨fun q => TMX (fun t => by omega), fun q h15 e15 T15 h16 e16 T16 => ?_⟩
      have hk95 : vy_k ts i = 95 := by omega
      have hany : any = true := hv2.2.mp q2
      have hhd : ¬ hd = true := fun t => by rw [hxx t] at hany; cases hany
      have et : vy_tm ts any i V = .inr (288230376151711744, i + 1, V) := by
        unfold vy_tm
        rw [if_neg (by omega), if_neg (by omega), if_neg (by omega), if_pos ⟨hany, hk95⟩]
      rw [et] at e0
      rw [B.2.1] at e15
      have B15 := vy_rb_at B e15 (j := i + 1) (by omega) (vy_nx ok hi (by omega)) (by omega)
      have f15 : vx_fr (fun a k => a = 625 ∧ k = 10) h8 h15 := vx_fr_sJ vx_fr_refl e15 ⟨rfl, rfl⟩
      have f16 : vx_fr (fun a k => a = 625 ∧ (k = 10 ∨ k = 46)) h8 h16 := vx_fr_sJ (vx_fr_mono f15 (by intro a k q; omega)) e16 (by omega)
      have g16 : vx_fr (fun a k => a = 625 ∧ k = 46) h15 h16 := vx_fr_sJ vx_fr_refl e16 ⟨rfl, rfl⟩
      refine E h16 (288230376151711744, i + 1, V) O T16 (vx_fr_trans hf (vx_fr_mono f16 (by intro a k q; omega))) ⟨(vx_fr_J f16 (by omega)).trans hrx.1, (vx_fr_J f16 (by omega)).trans hrx.2⟩ (vy_rb_fr B15 g16 (fun k => by omega) (by omega) (by omega)) ((vx_fr_J f16 (by omega)).trans c50) (vy_ro_fr C f16 (by omega)) (vy_ra_fr hA f16 (fun k => by omega)) ?_ (fun t => absurd t hhd) e0 v4
      rw [e16, vx_J_eq (by omega)]
      exact Or.inr (Or.inr ⟨rfl, rfl⟩)
    refine vg_42_86 hT ?_
    have h4 : vx_J g 625 50 ≠ 4 := by rw [c50]; omega
    refine ⟨fun _ => ?_, fun q => absurd q h4⟩
    rw [B.2.1, Int.toNat_natCast, hkr.1]
    have hw := vy_wrd hkr.2
    refine ⟨by omega, hv1.1, fun q1 => PL (fun t => absurd (hv1.2.mpr t.1) (fun u => u q1)) _ rfl, fun q1 => ⟨by omega, fun q5 => PL (fun t => q5 (hw.mpr ⟨t.2.1, t.2.2.1⟩).1) _ rfl, fun q5 => ⟨by omega, fun qc => PL (fun t => by have := (hw.mpr ⟨t.2.1, t.2.2.1⟩).2; omega) _ rfl, fun qc => ⟨fun qw => PL (fun t => qw (by rw [C.1, if_pos t.2.2.2])) _ rfl, fun qw => ⟨by omega, fun h11 e11 T11 h12 e12 T12 h13 e13 T13 h14 e14 T14 => ?_⟩⟩⟩⟩⟩
    -- a total
    have hhd : hd = true := hv1.2.mp q1
    have hk69 := hw.mp ⟨q5, qc⟩
    have hO : O.1 = -1 := by
      have := C.1
      rw [qw] at this
      by_cases t : O.1 = -1
      · exact t
      · rw [if_neg t] at this
        have := C.2.2
        omega
    have hkc : vx_J g 629 i = vy_k ts i - 4 := (hkr.2.2.2.2.2.2.1 (by omega)).2
    have hany := hxx hhd
    have e0 : R = (if vy_k ts (i + 1) ≠ 40 then .inl (vy_p ts (i + 1))
       else if vy_k ts (i + 2) ≠ 3 then .inl (vy_p ts (i + 2))
       else match vy_tm ts any (i + 2) V with
        | .inl p => .inl p
        | .inr q => if vy_k ts q.2.1 ≠ 41 then .inl (vy_p ts q.2.1)
          else if vy_k ts (q.2.1 + 1) = 44 then vy_ar ts hd any m (q.2.1 + 2) q.2.2 (vy_k ts i, 3 - (m : Int), vy_p ts i) (vy_set A (3 - m) q.1)
          else .inr (q.2.1 + 1, q.2.2, (vy_k ts i, 3 - (m : Int), vy_p ts i), vy_set A (3 - m) q.1, 4 - m)) := by
      rw [hR]
      show (if hd = true ∧ 6 ≤ vy_k ts i ∧ vy_k ts i ≤ 9 then _ else _) = _
      rw [if_pos ⟨hhd, hk69⟩, if_neg (fun t => t hO)]
      rfl
    rw [show vx_J h11 625 50 = 3 - (m : Int) by rw [e11, vx_J_ne (by omega), c50]] at e12
    rw [show vx_J h13 625 10 = i by rw [e13, vx_J_ne (by omega), e12, vx_J_ne (by omega), e11, vx_J_ne (by omega), B.2.1]] at e14
    have f13 : vx_fr (fun a k => a = 625 ∧ (k = 54 ∨ k = 55 ∨ k = 56)) g h13 := vx_fr_sJ (vx_fr_sJ (vx_fr_sJ vx_fr_refl e11 (by omega)) e12 (by omega)) e13 (by omega)
    have B13 := vy_rb_fr B f13 (fun k => by omega) (by omega) (by omega)
    have hi1 := vy_nx ok hi (by omega)
    have B14 := vy_rb_at B13 e14 (j := i + 1) (by omega) hi1 (by omega)
    have f14 : vx_fr (fun a k => a = 625 ∧ (k = 10 ∨ k = 54 ∨ k = 55 ∨ k = 56)) g h14 := vx_fr_sJ (vx_fr_mono f13 (by intro a k q; omega)) e14 (by omega)
    have F14 : vx_fr (vy_Sq cl) h0 h14 := vx_fr_trans hf (vx_fr_mono f14 (by intro a k q; omega))
    have X14 : vy_rx h0 h14 := ⟨(vx_fr_J f14 (by omega)).trans hrx.1, (vx_fr_J f14 (by omega)).trans hrx.2⟩
    have n14 : vx_J h14 625 3 ≠ 1 := by rw [X14.1]; exact n1
    have C14 : vy_ro h14 (vy_k ts i, 3 - (m : Int), vy_p ts i) := by
      refine ⟨?_, fun _ => ⟨?_, ?_⟩, Or.inr hk69⟩
      · show vx_J h14 625 54 = if vy_k ts i = -1 then 0 else vy_k ts i - 4
        rw [if_neg (by omega), e14, vx_J_ne (by omega), e13, vx_J_ne (by omega), e12, vx_J_ne (by omega), e11, vx_J_eq (by rw [hkc]; omega), hkc]
      · rw [e14, vx_J_ne (by omega), e13, vx_J_ne (by omega), e12, vx_J_eq (by omega)]
      · rw [e14, vx_J_ne (by omega), e13, vx_J_eq (by omega)]
    refine vx_CI_mono (vc_36 (d := d + 1) (s := 40) T14 ok B14 n14 (by omega) rfl) ?_
    rintro r15 h15 _ (⟨rfl, q40, e15, B15⟩ | ⟨rfl, q40, f15, b15⟩) T15
    · rw [if_neg (fun t => t q40)] at e0
      have f15 : vx_fr (fun a k => a = 625 ∧ k = 10) h14 h15 := vx_fr_sJ vx_fr_refl e15 ⟨rfl, rfl⟩
      have F15 : vx_fr (vy_Sq cl) h0 h15 := vx_fr_trans F14 (vx_fr_mono f15 (by intro a k q; omega))
      have X15 : vy_rx h0 h15 := ⟨(vx_fr_J f15 (by omega)).trans X14.1, (vx_fr_J f15 (by omega)).trans X14.2⟩
      have n15 : vx_J h15 625 3 ≠ 1 := by rw [X15.1]; exact n1
      have kr15 := vy_kr B15.1 B15.2.2.1
      refine ⟨fun _ => ?_, fun q => absurd q (by omega)⟩
      rw [B15.2.1, Int.toNat_natCast]
      have hj15 := B15.2.2.1
      refine ⟨by omega, fun q3 => ?_, fun q3 => vx_CI_mono (vc_33 (d := d + 2) T15 ok B15 n15) ?_⟩
      · have hk3 : vy_k ts (i + 1 + 1) = 3 := (vy_k3 kr15.2).mp q3
        rw [if_neg (fun t => t hk3)] at e0
        have et : vy_tm ts any (i + 2) V = (if vy_vx V (vy_v ts (i + 2)) < V.1 then .inr (144115188075855872 + (vy_vx V (vy_v ts (i + 2)) : Int), i + 2 + 1, V) else if V.1 < 8 then .inr (144115188075855872 + (V.1 : Int), i + 2 + 1, vy_va V (vy_v ts (i + 2)) (vy_p ts (i + 2))) else .inl (vy_p ts (i + 2))) := by
          have hk3 : vy_k ts (i + 2) = 3 := hk3
          unfold vy_tm
          rw [if_neg (by omega), if_neg (by omega), if_pos hk3]
        refine vx_CI_mono (vc_38 (d := d + 1) T15 ok B15 n15 hk3) ?_
        rintro r19 h19 _ ⟨f19, p19⟩ T19
        have F19 : vx_fr (vy_Sq cl) h0 h19 := vx_fr_trans F15 (vx_fr_mono f19 (by intro a k q; omega))
        rw [← et] at p19
        cases eq2 : vy_tm ts any (i + 2) V with
        | inl p =>
          rw [eq2] at p19 e0
          obtain ⟨rfl, b19⟩ := p19
          exact ⟨fun _ => F h19 p e0 F19 b19, fun q => absurd rfl q⟩
        | inr q =>
          rw [eq2] at p19 e0
          obtain ⟨rfl, t19, k19, x19, B19, i19⟩ := p19
          have e0 : R = if vy_k ts q.2.1 ≠ 41 then .inl (vy_p ts q.2.1)
            else if vy_k ts (q.2.1 + 1) = 44 then vy_ar ts hd any m (q.2.1 + 2) q.2.2 (vy_k ts i, 3 - (m : Int), vy_p ts i) (vy_set A (3 - m) q.1)
            else .inr (q.2.1 + 1, q.2.2, (vy_k ts i, 3 - (m : Int), vy_p ts i), vy_set A (3 - m) q.1, 4 - m) := e0
          have X19 : vy_rx h0 h19 := ⟨x19.1.trans X15.1, x19.2.trans X15.2⟩
          refine ⟨fun q => absurd q (by omega), fun _ => vx_CI_mono (vc_36 (d := d + 1) (s := 41) T19 ok B19 (by rw [X19.1]; exact n1) (by omega) rfl) ?_⟩
          rintro r21 h21 _ (⟨rfl, q41, e21, B21⟩ | ⟨rfl, q41, f21, b21⟩) T21
          · rw [if_neg (fun t => t q41)] at e0
            have f21 : vx_fr (fun a k => a = 625 ∧ k = 10) h19 h21 := vx_fr_sJ vx_fr_refl e21 ⟨rfl, rfl⟩
            have F21 : vx_fr (vy_Sq cl) h0 h21 := vx_fr_trans F19 (vx_fr_mono f21 (by intro a k q; omega))
            have X21 : vy_rx h0 h21 := ⟨(vx_fr_J f21 (by omega)).trans X19.1, (vx_fr_J f21 (by omega)).trans X19.2⟩
            have C21 : vy_ro h21 (vy_k ts i, 3 - (m : Int), vy_p ts i) := vy_ro_fr (vy_ro_fr (vy_ro_fr C14 f15 (by omega)) f19 (by omega)) f21 (by omega)
            have A21 : vy_ra h21 A (3 - m) := vy_ra_fr (vy_ra_fr (vy_ra_fr (vy_ra_fr hA f14 (fun k => by omega)) f15 (fun k => by omega)) f19 (fun k => by omega)) f21 (fun k => by omega)
            have n21 : vx_J h21 625 50 = 3 - (m : Int) := (vx_fr_J f21 (by omega)).trans ((vx_fr_J f19 (by omega)).trans ((vx_fr_J f15 (by omega)).trans ((vx_fr_J f14 (by omega)).trans c50)))
            have t21 : vy_tr q.1 (vx_J h21 625 46) (vx_K h21 625 47) := by rw [vx_fr_J f21 (by omega), vx_fr_K f21 (by omega)]; exact t19
            have z53 : vx_J h21 625 53 = vx_J g 625 53 := (vx_fr_J f21 (by omega)).trans ((vx_fr_J f19 (by omega)).trans ((vx_fr_J f15 (by omega)).trans (vx_fr_J f14 (by omega))))
            have FIN : ∀ h24, h24 = vx_sJ h21 625 53 (if V.1 = 0 then vy_p ts i else vx_J g 625 53) → vx_T 625 672 h24 → vx_W (d + 3 + 1) 42 317 [some (.ref 625), some (.int (vx_i v1)), some (.int (vx_i v2)), some (.int (vx_i v3)), some (.int (vx_i (vy_p ts i)))] [] h24 (vx_RI P) := by
              intro h24 e24 T24
              have f24 : vx_fr (fun a k => a = 625 ∧ k = 53) h21 h24 := vx_fr_sJ vx_fr_refl e24 ⟨rfl, rfl⟩
              refine E h24 (q.1, q.2.1 + 1, q.2.2) (vy_k ts i, 3 - (m : Int), vy_p ts i) T24 (vx_fr_trans F21 (vx_fr_mono f24 (by intro a k q; omega))) ⟨(vx_fr_J f24 (by omega)).trans X21.1, (vx_fr_J f24 (by omega)).trans X21.2⟩ (vy_rb_fr B21 f24 (fun k => by omega) (by omega) (by omega)) ((vx_fr_J f24 (by omega)).trans n21) (vy_ro_fr C21 f24 (by omega)) (vy_ra_fr A21 f24 (fun k => by omega)) (by rw [vx_fr_J f24 (by omega), vx_fr_K f24 (by omega)]; exact t21) (fun t => ?_) e0 _
              exact vy_fi_tot (W := q.2.2) (j := q.2.1) ok (by omega) (hff t) hO (vy_tm_lt eq2) B21.2.2.1 (vy_tm_V hV8 eq2).1 (vy_tm_new3 hk3 eq2) (by rw [e24, vx_J_eq]; split; omega; exact vx_rI_J _ _ _)
            refine ⟨fun _ => ⟨fun q53 h24 e24 T24 => FIN h24 ?_ T24, fun q53 h25 e25 T25 => FIN h25 ?_ T25⟩, fun q => absurd q (by omega)⟩
            · have hv := hff hhd
              rw [z53, hv.1] at q53
              rw [e24, z53, if_neg (fun u => q53 ((vy_ff_none hv.2.1 (fun v hv2 => (hv.2.2 v hv2).1)).mpr u))]
            · have hv := hff hhd
              rw [z53, hv.1] at q53
              rw [e25, if_pos ((vy_ff_none hv.2.1 (fun v hv2 => (hv.2.2 v hv2).1)).mp q53)]
          · rw [if_pos q41] at e0
            exact ⟨fun q => absurd rfl q, fun _ => F h21 _ e0 (vx_fr_trans F19 (vx_fr_mono f21 (by intro a k q; omega))) b21⟩
      · rintro r26 h26 _ ⟨rfl, f26, b26⟩ _
        have hk3 : vy_k ts (i + 2) ≠ 3 := fun t => q3 ((vy_k3 kr15.2).mpr t)
        rw [if_pos hk3] at e0
        exact ⟨Or.inl rfl, F h26 _ e0 (vx_fr_trans F15 (vx_fr_mono f26 (by intro a k q; omega))) b26⟩
    · rw [if_pos q40] at e0
      exact ⟨fun q => absurd rfl q, fun _ => F h15 _ e0 (vx_fr_trans F14 (vx_fr_mono f15 (by intro a k q; omega))) b15⟩
end
