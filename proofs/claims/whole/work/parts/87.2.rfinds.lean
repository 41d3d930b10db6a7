/-! The search of the reference: the rest of a way -/
abbrev vn_W2 (a k : Nat) : Prop := (a = 625 ∧ k = 69) ∨ a = 664 ∨ a = 665
def vn_ct (g : ve_H) : Nat := vr_n (fun i => decide (vx_J g 664 i ≠ 0)) 8
/-- a row has nothing behind its arguments -/
def vn_ra (Pd : vy_V) (f : Nat → Int) : Prop := ∃ p m : Nat, f 0 = p ∧ p < Pd.1 ∧ Pd.2.2 p = m ∧ m ≤ 4 ∧ ∀ k, m ≤ k → k < 4 → f (k + 1) = 0
/-- rows ahead of the limit -/
def vn_db (h : ve_H) (Pd : vy_V) (lim : Nat) (rr : Nat → Nat → Int) : Prop := vx_J h 625 65 = lim ∧ lim ≤ 201 ∧ ∀ i, i < lim → vn_ro h i (rr i) ∧ vn_ra Pd (rr i)
def vn_D (lim : Nat) (rr : Nat → Nat → Int) : vm_S := fun f => ∃ i, i < lim ∧ vr_eq 5 (rr i) f
/-- no atom with ! is there -/
def vn_no (lim : Nat) (rr : Nat → Nat → Int) (L : vy_L) (w : Nat → Int) : Prop := ∀ j, j < L.1 → L.2.1 j = 15 → ¬ vm_ex (vn_D lim rr) (L.2.2.1 j) (L.2.2.2.2 j) w
/-- from where a search stands, what has come to it -/
def vn_st (g0 : ve_H) (u0 : Nat → Int) (L : vy_L) (h : ve_H) (u : Nat → Int) : Prop := vx_fr vn_W2 g0 h ∧ vn_S h u ∧ (∀ v, v < 8 → vx_J g0 664 v ≠ 0 → vx_J h 664 v ≠ 0) ∧ vn_ag g0 u0 u ∧ ∀ w, vn_ag g0 u0 w → vn_nl L w → vn_ag h u w
/-- a literal binds nothing more -/
def vn_cl (h : ve_H) (kd : Int) (A : Nat → Int) : Prop := (kd = 5 → vn_th h (A 1) → vn_th h (A 2) → vn_th h (A 0)) ∧ (kd = 61 → (vn_th h (A 0) ↔ vn_th h (A 1)))
/-- how finds ends -/
def vn_fP (g0 : ve_H) (u0 : Nat → Int) (n lim : Nat) (rr : Nat → Nat → Int) (L : vy_L) (r : Int) (h1 : ve_H) : Prop := vx_fr vn_W2 g0 h1 ∧ ((r = 1 ∧ ∃ u1, vn_S h1 u1 ∧ vn_ag g0 u0 u1 ∧ (∀ v, v < n → vx_J h1 664 v ≠ 0) ∧ vn_nl L u1 ∧ vn_no lim rr L u1 ∧ ∀ w, vn_ag g0 u0 w → vn_nl L w → ∀ v, v < n → u1 v = w v) ∨ (r = 0 ∧ ∀ w, vn_ag g0 u0 w → ¬ (vn_nl L w ∧ vn_no lim rr L w)))
section
variable {d c lim n : Nat} {g0 g h : ve_H} {Pd : vy_V} {L : vy_L} {u0 u : Nat → Int} {rr : Nat → Nat → Int} {O1 : Int} {x : Int} {j : Nat}
theorem vn_W2_x {a k : Nat} (q : vn_W2 a k) : (a = 625 ∧ k ≠ 42) ∨ a = 654 ∨ (650 ≤ a ∧ a ≤ 652) ∨ 664 ≤ a := by omega
theorem vn_db_fr {S : Nat → Nat → Prop} (X : vn_db g Pd lim rr) (f : vx_fr S g h) (hs : (¬ S 625 65) ∧ ∀ i, i < lim → ¬ S 650 i ∧ ∀ k, k < 4 → ¬ S 652 (4 * i + k)) : vn_db h Pd lim rr := ⟨(vx_fr_J f hs.1).trans X.1, X.2.1, fun i hi => ⟨⟨(vx_fr_J f (hs.2 i hi).1).trans (X.2.2 i hi).1.1, fun k hk => by rw [vx_fr_K f ((hs.2 i hi).2 k hk)]; exact (X.2.2 i hi).1.2 k hk⟩, (X.2.2 i hi).2⟩⟩
/-- a variable takes the one value that it can have -/
theorem vn_st_set {g1 : ve_H} {v : Nat} {e : Int} (s : vn_st g0 u0 L g u) (v8 : v < 8) (nb : vx_J g 664 v = 0) (F : vx_fr vn_W2 g g1) (S1 : vn_S g1 (fun j => if j = v then e else u j)) (j1 : ∀ j, vx_J g1 664 j = if j = v then 1 else vx_J g 664 j) (un : ∀ w, vn_ag g u w → vn_nl L w → w v = e) : vn_st g0 u0 L g1 (fun j => if j = v then e else u j) ∧ vn_ct g < vn_ct g1 := by
  obtain ⟨s1, s2, s3, s4, s5⟩ := s
  have up : ∀ i, vx_J g 664 i ≠ 0 → vx_J g1 664 i ≠ 0 := fun i q => by
    rw [j1 i]
    by_cases e : i = v
    · rw [if_pos e]; decide
    · rw [if_neg e]; exact q
  refine ⟨⟨vx_fr_trans s1 F, S1, fun i hi q => up i (s3 i hi q), fun i hi q => ?_, fun w hw nl i hi q => ?_⟩, ?_⟩
  · show u0 i = if i = v then e else u i
    have hb := s3 i hi q
    rw [if_neg (fun ee => hb (by rw [ee]; exact nb))]
    exact s4 i hi q
  · show (if i = v then e else u i) = w i
    have ag := s5 w hw nl
    by_cases ee : i = v
    · rw [if_pos ee, ee]; exact (un w ag nl).symm
    · rw [if_neg ee]
      rw [j1 i, if_neg ee] at q
      exact ag i hi q
  · refine vz_n_lt 8 (fun i _ q => decide_eq_true (up i (of_decide_eq_true q))) ⟨v, v8, decide_eq_true ?_, decide_eq_false (fun t => t nb)⟩
    rw [j1 v, if_pos rfl]; decide
/-- in the midst of a pass -/
def vn_pa (g0 : ve_H) (u0 : Nat → Int) (L : vy_L) (gp : ve_H) (up : Nat → Int) (j : Nat) (w : Int) (h : ve_H) : Prop := (w = 0 ∧ h = gp ∧ ∀ j', j' < j → vn_cl gp (L.2.1 j') (L.2.2.2.2 j')) ∨ (w ≠ 0 ∧ ∃ u, vn_st g0 u0 L h u ∧ vn_ct gp < vn_ct h)
theorem vn_pa_st {gp : ve_H} {up : Nat → Int} {w : Int} (sp : vn_st g0 u0 L gp up) (q : vn_pa g0 u0 L gp up j w h) : ∃ u, vn_st g0 u0 L h u ∧ vn_ct gp ≤ vn_ct h ∧ (w = 0 → h = gp ∧ ∀ j', j' < j → vn_cl gp (L.2.1 j') (L.2.2.2.2 j')) := by
  rcases q with ⟨q1, q2, q3⟩ | ⟨q1, u, q2, q3⟩
  · exact ⟨up, by rw [q2]; exact sp, by rw [q2]; exact Nat.le_refl _, fun _ => ⟨q2, q3⟩⟩
  · exact ⟨u, q2, Nat.le_of_lt q3, fun t => absurd t q1⟩
theorem vc_76_25 {gp : ve_H} {up : Nat → Int} (W : vz_wf O1 n L) (wo : ∀ j, j < L.1 → L.2.1 j = 5 → vy_opn (L.2.2.1 j)) (n8 : n ≤ 8) (X0 : vn_lx g0 c Pd L) (sp : vn_st g0 u0 L gp up)
    (K : ∀ g v1 v2 v3, (v1 = 0 ∨ v1 = 1) → vx_T 625 672 g → vn_pa g0 u0 L gp up L.1 v1 g → vx_W (d + 3 + 1) 76 2 [some (.ref 625), some (.int (vx_i v1)), v2, v3] [] g (vx_RI (vn_fP g0 u0 n lim rr L))) :
    ∀ (m j : Nat) (g : ve_H) (w z : Int) (v3 : Option Value), m = L.1 - j → j ≤ L.1 → z = ((6 * c + j : Nat) : Int) → (w = 0 ∨ w = 1) → vx_T 625 672 g → vn_pa g0 u0 L gp up j w g → vx_W (d + 3 + 1) 76 25 [some (.ref 625), some (.int (vx_i w)), some (.int (vx_i z)), v3] [] g (vx_RI (vn_fP g0 u0 n lim rr L)) := by
  intro m
  induction m with
  | zero =>
    intro j g w z v3 hm hj hz hw hT pa
    obtain ⟨u, s, _, _⟩ := vn_pa_st sp pa
    have X := vn_lx_fr X0 s.1 (fun a k q => vn_W2_x q)
    have c61 := X.2.1
    have L6 := X.2.2.2.1
    have ej : j = L.1 := by omega
    subst ej
    refine vg_76_25 hT ?_
    rw [X.1, show ((c : Nat) : Int).toNat = c by omega, X.2.2.1]
    exact ⟨by omega, by omega, by omega, fun _ => K g w _ v3 hw hT pa, fun q => absurd q (by omega)⟩
  | succ m ih =>
    intro j g w z v3 hm hj hz hw hT pa
    have hj' : j < L.1 := by omega
    obtain ⟨u, s, ctl, w0⟩ := vn_pa_st sp pa
    have X := vn_lx_fr X0 s.1 (fun a k q => vn_W2_x q)
    have c61 := X.2.1
    have L6 := X.2.2.2.1
    obtain ⟨hl, k43, mm, lt, _, q5, qr⟩ := vn_lq X hj'
    have wj := W j hj'
    have rk := vn_rk (L.2.1 j)
    -- the next literal, with nothing bound by this one
    have skip : vn_cl g (L.2.1 j) (L.2.2.2.2 j) → ∀ v3, vx_W (d + 3 + 1) 76 175 [some (.ref 625), some (.int (vx_i w)), some (.int (vx_i z)), v3] [] g (vx_RI (vn_fP g0 u0 n lim rr L)) := by
      intro cl v3
      refine vg_76_175 hT (ih (j + 1) g w (z + 1) v3 (by omega) (by omega) (by omega) hw hT ?_)
      rcases pa with ⟨q1, q2, q3⟩ | q
      · refine Or.inl ⟨q1, q2, fun j' h' => ?_⟩
        by_cases e : j' = j
        · rw [e, ← q2]; exact cl
        · exact q3 j' (by omega)
      · exact Or.inr q
    have bound : ∀ g1 u1, vx_T 625 672 g1 → vn_st g0 u0 L g1 u1 → vn_ct g < vn_ct g1 → ∀ v3, vx_W (d + 3 + 1) 76 175 [some (.ref 625), some (.int (vx_i 1)), some (.int (vx_i z)), v3] [] g1 (vx_RI (vn_fP g0 u0 n lim rr L)) := fun g1 u1 hT1 s1 c1 v3 => vg_76_175 hT1 (ih (j + 1) g1 1 (z + 1) v3 (by omega) (by omega) (by omega) (Or.inr rfl) hT1 (Or.inr ⟨by decide, u1, s1, by omega⟩))
    -- the relation
    have b108 : (L.2.1 j = 5 → vn_th g (L.2.2.2.2 j 1) → vn_th g (L.2.2.2.2 j 2) → vn_th g (L.2.2.2.2 j 0)) → ∀ v3, vx_W (d + 3 + 1) 76 108 [some (.ref 625), some (.int (vx_i w)), some (.int (vx_i z)), v3] [] g (vx_RI (vn_fP g0 u0 n lim rr L)) := by
      intro c5 v3
      refine vg_76_108 hT ?_
      rw [show z.toNat = 6 * c + j by omega, k43]
      refine ⟨by omega, fun q => skip ⟨c5, fun k61 => ?_⟩ v3, fun q => ⟨by omega, fun q2 => skip ⟨c5, fun k61 => ?_⟩ v3, fun q2 => ?_⟩⟩
      · exfalso
        apply q
        rw [k61]; rfl
      · exfalso
        apply q2
        rw [(qr (Or.inl k61)).2, k61]; rfl
      · have nk := rk.1 q
        have hr : vy_rel (L.2.1 j) := by
          rcases wj.1 with t | t | t | t
          · exact absurd t nk.1
          · exact absurd t nk.2.1
          · exact absurd t nk.2.2
          · exact t
        have k61 : L.2.1 j = 61 := by
          rw [(qr hr).2] at q2
          unfold vy_sr at q2
          split at q2 <;> omega
        have na := wj.2.2.2.2 (Or.inr (Or.inl hr))
        have m2 := (qr hr).1
        subst m2
        have c68 : ∀ k : Nat, k < 2 → ∀ {y : Int}, y = k → vx_CI (d + 3) 68 [.ref 625, .int (vx_i z), .int (vx_i y)] g (fun r h1 => h1 = g ∧ ((r = 1 ∧ vn_th g (L.2.2.2.2 j k)) ∨ (r = 0 ∧ ¬ vn_th g (L.2.2.2.2 j k)))) := fun k hk y hy => vc_68 hT hl (by omega) hz hy (lt.2.2.1 k hk) (na k (by omega))
        -- one side takes the other's value
        have give : ∀ (a b : Nat) (y1 y2 : Int), ((a = 0 ∧ b = 1) ∨ (a = 1 ∧ b = 0)) → y1 = b → y2 = a → ¬ vn_th g (L.2.2.2.2 j a) → vn_th g (L.2.2.2.2 j b) → ∀ v3, vx_CL (d + 3) 69 [.ref 625, .int (vx_i z), .int (vx_i y1)] g (fun r10 h10 => vx_T 625 672 h10 → vx_CV (d + 3) 75 [.ref 625, .int (vx_i z), .int (vx_i y2), .long (vx_l r10)] h10 (fun h11 => vx_T 625 672 h11 → vx_W (d + 3 + 1) 76 175 [some (.ref 625), some (.int (vx_i 1)), some (.int (vx_i z)), v3] [] h11 (vx_RI (vn_fP g0 u0 n lim rr L)))) := by
          intro a b y1 y2 hab hy1 hy2 ta tb v3
          refine vx_CL_mono (vc_69 hT hl (k := b) (by omega) hz hy1 s.2.1 (lt.2.2.1 b (by omega)) (na b (by omega)) tb) ?_
          rintro r10 h10 _ ⟨rfl, e10⟩ _
          obtain ⟨v, hv, nb⟩ : ∃ v, vz_v (L.2.2.2.2 j a) v ∧ vx_J h10 664 v = 0 := Classical.byContradiction (fun no => ta (fun i hi t => no ⟨i, hi, t⟩))
          refine vx_CV_mono (vc_75 hT hl (k := a) (by omega) hz hy2 s.2.1 (lt.2.2.1 a (by omega)) hv e10) ?_
          rintro h11 ⟨F11, S11, j11⟩ hT11
          have t := vn_st_set s hv.1 nb (vx_fr_mono F11 (fun a k q => by omega)) S11 j11 (fun w' ag nl => by
            have e := ((nl j hj').2 hr).1 k61
            rw [← vm_v_v (u := w') hv, vn_v_ag ag tb]
            rcases hab with ⟨rfl, rfl⟩ | ⟨rfl, rfl⟩
            · exact e
            · exact e.symm)
          exact bound h11 _ hT11 t.1 t.2 v3
        refine vx_CI_mono (c68 0 (by omega) rfl) ?_
        rintro r5 h5 _ ⟨rfl, c5'⟩ _
        refine vx_CI_mono (c68 1 (by omega) rfl) ?_
        rintro r6 h6 _ ⟨rfl, c6'⟩ _
        refine ⟨fun qe => skip ⟨c5, fun _ => ?_⟩ v3, fun qe => vx_CI_mono (c68 0 (by omega) rfl) ?_⟩
        · rcases c5' with ⟨a1, a2⟩ | ⟨a1, a2⟩
          · rcases c6' with ⟨b1, b2⟩ | ⟨b1, b2⟩
            · exact ⟨fun _ => b2, fun _ => a2⟩
            · omega
          · rcases c6' with ⟨b1, b2⟩ | ⟨b1, b2⟩
            · omega
            · exact ⟨fun t => absurd t a2, fun t => absurd t b2⟩
        rintro r8 h8 _ ⟨rfl, c8'⟩ _
        refine ⟨fun q8 => ?_, fun q8 => ?_⟩
        · have t0 : ¬ vn_th h8 (L.2.2.2.2 j 0) := by
            rcases c8' with ⟨a, _⟩ | ⟨_, a⟩
            · omega
            · exact a
          have t1 : vn_th h8 (L.2.2.2.2 j 1) := by
            rcases c6' with ⟨_, b2⟩ | ⟨b1, _⟩
            · exact b2
            · rcases c5' with ⟨_, a2⟩ | ⟨a1, _⟩
              · exact absurd a2 t0
              · omega
          exact give 0 1 (1 - 0) 0 (Or.inl ⟨rfl, rfl⟩) rfl rfl t0 t1 _
        · have t0 : vn_th h8 (L.2.2.2.2 j 0) := by
            rcases c8' with ⟨_, a⟩ | ⟨a, _⟩
            · exact a
            · exact absurd a q8
          have t1 : ¬ vn_th h8 (L.2.2.2.2 j 1) := by
            rcases c6' with ⟨b1, b2⟩ | ⟨_, b2⟩
            · rcases c5' with ⟨a1, _⟩ | ⟨_, a2⟩
              · omega
              · exact absurd t0 a2
            · exact b2
          exact give 1 0 (1 - 1) 1 (Or.inr ⟨rfl, rfl⟩) rfl rfl t1 t0 _
    refine vg_76_25 hT ?_
    rw [X.1, show ((c : Nat) : Int).toNat = c by omega, X.2.2.1, show z.toNat = 6 * c + j by omega, k43]
    refine ⟨by omega, by omega, by omega, fun q => absurd q (by omega), fun _ => ⟨by omega, fun q => b108 (fun k5 => ?_) v3, fun q => ?_⟩⟩
    · exfalso
      apply q
      rw [k5]; rfl
    · have k5 := rk.2.1 q
      have na := wj.2.2.2.2 (Or.inl k5)
      have m3 := (q5 k5).1
      subst m3
      have c68 : ∀ k : Nat, k < 3 → ∀ {y : Int}, y = k → vx_CI (d + 3) 68 [.ref 625, .int (vx_i z), .int (vx_i y)] g (fun r h1 => h1 = g ∧ ((r = 1 ∧ vn_th g (L.2.2.2.2 j k)) ∨ (r = 0 ∧ ¬ vn_th g (L.2.2.2.2 j k)))) := fun k hk y hy => vc_68 hT hl (by omega) hz hy (lt.2.2.1 k hk) (na k (by omega))
      refine vx_CI_mono (c68 0 (by omega) rfl) ?_
      rintro r7 h7 _ ⟨rfl, c7⟩ _
      refine ⟨fun q7 => b108 (fun _ _ _ => ?_) v3, fun q7 => vx_CI_mono (c68 1 (by omega) rfl) ?_⟩
      · rcases c7 with ⟨_, a⟩ | ⟨a, _⟩
        · exact a
        · exact absurd a q7
      rintro r9 h9 _ ⟨rfl, c9⟩ _
      refine ⟨fun q9 => b108 (fun _ t1 _ => ?_) v3, fun q9 => vx_CI_mono (c68 2 (by omega) rfl) ?_⟩
      · rcases c9 with ⟨a, _⟩ | ⟨_, a⟩
        · omega
        · exact absurd t1 a
      rintro r11 h11 _ ⟨rfl, c11⟩ _
      refine ⟨fun q11 => b108 (fun _ _ t2 => ?_) v3, fun q11 => ?_⟩
      · rcases c11 with ⟨a, _⟩ | ⟨_, a⟩
        · omega
        · exact absurd t2 a
      have t0 : ¬ vn_th h11 (L.2.2.2.2 j 0) := by
        rcases c7 with ⟨a, _⟩ | ⟨_, a⟩
        · omega
        · exact a
      have t1 : vn_th h11 (L.2.2.2.2 j 1) := by
        rcases c9 with ⟨_, a⟩ | ⟨a, _⟩
        · exact a
        · exact absurd a q9
      have t2 : vn_th h11 (L.2.2.2.2 j 2) := by
        rcases c11 with ⟨_, a⟩ | ⟨a, _⟩
        · exact a
        · exact absurd a q11
      refine vx_CI_mono (vc_73 (d := d + 2) hT s.2.1 X hj' k5 (wo j hj' k5) na t1 t2 hz) ?_
      rintro r13 h13 _ ⟨F13, c13⟩ hT13
      refine ⟨fun q13 => ?_, fun q13 => ⟨vx_fr_trans s.1 (vx_fr_mono F13 (fun a k q => Or.inl q)), Or.inr ⟨rfl, fun w' hw' t => ?_⟩⟩⟩
      · obtain ⟨ok13, e69⟩ : vn_ok (L.2.2.1 j) (vm_v u (L.2.2.2.2 j 1)) (vm_v u (L.2.2.2.2 j 2)) ∧ vx_K h13 625 69 = vm_rk (L.2.2.1 j) (vm_v u (L.2.2.2.2 j 1)) (vm_v u (L.2.2.2.2 j 2)) := by
          rcases c13 with ⟨_, t⟩ | ⟨t, _⟩
          · exact t
          · exact absurd t q13
        obtain ⟨v, hv, nb⟩ : ∃ v, vz_v (L.2.2.2.2 j 0) v ∧ vx_J h11 664 v = 0 := Classical.byContradiction (fun no => t0 (fun i hi t => no ⟨i, hi, t⟩))
        have S13 := vn_S_fr s.2.1 F13 (fun k => ⟨by omega, by omega⟩)
        have lt13 := vn_lt_fr lt F13 (fun k => ⟨by omega, by omega⟩)
        refine vx_CV_mono (vc_75 (e := vm_rk (L.2.2.1 j) (vm_v u (L.2.2.2.2 j 1)) (vm_v u (L.2.2.2.2 j 2))) hT13 hl (k := 0) (by omega) hz rfl S13 (lt13.2.2.1 0 (by omega)) hv (by rw [e69]; exact Or.inl ⟨rfl, vm_rk_r.1, vm_rk_r.2⟩)) ?_
        rintro h15 ⟨F15, S15, j15⟩ hT15
        have FF : vx_fr vn_W2 h11 h15 := vx_fr_trans (vx_fr_mono F13 (fun a k q => Or.inl q)) (vx_fr_mono F15 (fun a k q => by omega))
        have t := vn_st_set s hv.1 nb FF S15 (fun i => by rw [j15 i, vx_fr_J F13 (by omega)]) (fun w' ag nl => by
          have e := ((nl j hj').1 k5).2.2.2
          rw [← vm_v_v (u := w') hv, vn_v_ag ag t1, vn_v_ag ag t2]; exact e)
        exact bound h15 _ hT15 t.1 t.2 v3
      · have ag := s.2.2.2.2 w' hw' t.1
        have e := (t.1 j hj').1 k5
        rcases c13 with ⟨a, _⟩ | ⟨_, a⟩
        · omega
        · apply a
          rw [vn_v_ag ag t1, vn_v_ag ag t2]
          exact ⟨e.1, e.2.1, e.2.2.1⟩
/-- atoms with ! -/
theorem vc_76_192 (n8 : n ≤ 8) (W : vz_wf O1 n L) (X : vn_lx g c Pd L) (B : vn_db g Pd lim rr) (hT : vx_T 625 672 g) (s : vn_st g0 u0 L g u) (al : ∀ v, v < n → vx_J g 664 v ≠ 0) (nl : vn_nl L u) {v1 : Int} :
    ∀ (m j : Nat) (z : Int) (v3 : Option Value), m = L.1 - j → j ≤ L.1 → z = ((6 * c + j : Nat) : Int) → (∀ j', j' < j → L.2.1 j' = 15 → ¬ vm_ex (vn_D lim rr) (L.2.2.1 j') (L.2.2.2.2 j') u) → vx_W (d + 3 + 1) 76 192 [some (.ref 625), some (.int (vx_i v1)), some (.int (vx_i z)), v3] [] g (vx_RI (vn_fP g0 u0 n lim rr L)) := by
  have c61 := X.2.1
  have L6 := X.2.2.2.1
  have th : ∀ j, j < L.1 → ∀ k, k < 4 → vn_th g (L.2.2.2.2 j k) := fun j hj k hk i hi => al i ((W j hj).2.2.2.1 k hk i hi)
  intro m
  induction m with
  | zero =>
    intro j z v3 hm hj hz no
    refine vg_76_192 hT ?_
    rw [X.1, show ((c : Nat) : Int).toNat = c by omega, X.2.2.1]
    refine ⟨by omega, by omega, by omega, fun _ => ⟨s.1, Or.inl ⟨rfl, u, s.2.1, s.2.2.2.1, al, nl, fun j' h' k => no j' (by omega) k, fun w hw nlw v hv => s.2.2.2.2 w hw nlw v (by omega) (al v hv)⟩⟩, fun q => absurd q (by omega)⟩
  | succ m ih =>
    intro j z v3 hm hj hz no
    have hj' : j < L.1 := by omega
    obtain ⟨hl, k43, mm, lt, qa, _, _⟩ := vn_lq X hj'
    have rk := vn_rk (L.2.1 j)
    have nx : (L.2.1 j = 15 → ¬ vm_ex (vn_D lim rr) (L.2.2.1 j) (L.2.2.2.2 j) u) → ∀ v3, vx_W (d + 3 + 1) 76 192 [some (.ref 625), some (.int (vx_i v1)), some (.int (vx_i (z + 1))), v3] [] g (vx_RI (vn_fP g0 u0 n lim rr L)) := fun q v3 => ih (j + 1) (z + 1) v3 (by omega) (by omega) (by omega) (fun j' h' k => by
      by_cases e : j' = j
      · rw [e] at k ⊢; exact q k
      · exact no j' (by omega) k)
    refine vg_76_192 hT ?_
    rw [X.1, show ((c : Nat) : Int).toNat = c by omega, X.2.2.1, show z.toNat = 6 * c + j by omega, k43]
    refine ⟨by omega, by omega, by omega, fun q => absurd q (by omega), fun _ => ⟨by omega, fun q => ?_, fun q => nx (fun k => absurd (rk.2.2.2.mpr k) q) v3⟩⟩
    have k15 := rk.2.2.2.mp q
    obtain ⟨q61, p, p1, p2, p3, p4⟩ := qa (Or.inr k15)
    -- a row like the atom
    have lk : ∀ i, i < lim → ((rr i 0 = p ∧ ∀ k, k < mm → vn_m1 g u (L.2.2.2.2 j k) (rr i (k + 1))) ↔ (rr i 0 = L.2.2.1 j ∧ vm_at u (L.2.2.2.2 j) (rr i))) := by
      intro i hi
      rw [p2]
      constructor
      · rintro ⟨a1, a2⟩
        refine ⟨a1, fun k hk => ?_⟩
        by_cases km : k < mm
        · rcases a2 k km with t | t | t
          · exact Or.inl t
          · exact absurd (th j hj' k hk) t
          · exact Or.inr t
        · obtain ⟨p', m', b1, b2, b3, b4, b5⟩ := (B.2.2 i hi).2
          have ep : p' = p := by omega
          rw [ep] at b3
          refine Or.inr ?_
          rw [lt.2.2.2 k (by omega) hk, vm_v_c (fun i => vz_v0), b5 k (by omega) hk]
      · rintro ⟨a1, a2⟩
        refine ⟨a1, fun k hk => ?_⟩
        have m4 := lt.2.1
        rcases a2 k (by omega) with t | t
        · exact Or.inl t
        · exact Or.inr (Or.inr t)
    have l28 : ∀ (m' i : Nat) (y : Int), m' = lim - i → i ≤ lim → y = i → (∀ i', i' < i → ¬ (rr i' 0 = L.2.2.1 j ∧ vm_at u (L.2.2.2.2 j) (rr i'))) → vx_W (d + 3 + 1) 76 228 [some (.ref 625), some (.int (vx_i v1)), some (.int (vx_i z)), some (.int (vx_i y))] [] g (vx_RI (vn_fP g0 u0 n lim rr L)) := by
      have l201 := B.2.1
      intro m'
      induction m' with
      | zero =>
        intro i y hm' hi hy no'
        refine vg_76_228 hT ?_
        rw [B.1]
        refine ⟨by omega, fun _ => nx (fun _ => ?_) _, fun q => absurd q (by omega)⟩
        rintro ⟨f, ⟨i', i1, i2⟩, f2, f3⟩
        exact no' i' (by omega) ⟨(i2 0 (by omega)).trans f2, vm_at_eq (vr_eq_symm i2) f3⟩
      | succ m' ih' =>
        intro i y hm' hi hy no'
        refine vg_76_228 hT ?_
        rw [B.1]
        refine ⟨by omega, fun q => absurd q (by omega), fun _ => vx_CI_mono (vc_70 (d := d + 2) hT s.2.1 lt q61 p4 (by omega) (B.2.2 i (by omega)).1 hy hz) ?_⟩
        rintro r3 h3 _ ⟨rfl, c3⟩ _
        have e3 := lk i (by omega)
        refine ⟨fun q3 => ih' (i + 1) (y + 1) (by omega) (by omega) (by omega) (fun i' h' => ?_), fun q3 => ⟨s.1, Or.inr ⟨rfl, fun w hw t => ?_⟩⟩⟩
        · by_cases e : i' = i
          · rw [e]
            rcases c3 with ⟨a, _⟩ | ⟨_, a⟩
            · omega
            · exact fun t => a (e3.mpr t)
          · exact no' i' (by omega)
        · have like : rr i 0 = L.2.2.1 j ∧ vm_at u (L.2.2.2.2 j) (rr i) := by
            rcases c3 with ⟨_, a⟩ | ⟨a, _⟩
            · exact e3.mp a
            · exact absurd a q3
          have ag := s.2.2.2.2 w hw t.1
          refine t.2 j hj' k15 ⟨rr i, ⟨i, by omega, fun _ _ => rfl⟩, like.1, fun k hk => ?_⟩
          rcases like.2 k hk with a | a
          · exact Or.inl a
          · exact Or.inr (by rw [← vn_v_ag ag (th j hj' k hk)]; exact a)
    exact l28 lim 0 0 (by omega) (by omega) rfl (fun i' h' => absurd h' (by omega))
/-- again and again, till nothing more is bound -/
theorem vc_76_2 (W : vz_wf O1 n L) (wo : ∀ j, j < L.1 → L.2.1 j = 5 → vy_opn (L.2.2.1 j)) (n8 : n ≤ 8) (bd : ∀ v, v < n → vz_bd L v) (X0 : vn_lx g0 c Pd L) (B0 : vn_db g0 Pd lim rr) (at0 : ∀ j, j < L.1 → L.2.1 j = 14 → ∀ i, vz_lv L j i → vx_J g0 664 i ≠ 0) :
    ∀ (m : Nat) (g : ve_H) (u : Nat → Int) (v2 v3 : Option Value), m = 8 - vn_ct g → vx_T 625 672 g → vn_st g0 u0 L g u → vx_W (d + 3 + 1) 76 2 [some (.ref 625), some (.int (vx_i 1)), v2, v3] [] g (vx_RI (vn_fP g0 u0 n lim rr L)) := by
  intro m
  induction m using Nat.strongRecOn with
  | ind m IH =>
    intro g u v2 v3 hm hT s
    have X := vn_lx_fr X0 s.1 (fun a k q => vn_W2_x q)
    have c61 := X.2.1
    refine vg_76_2 hT ⟨by decide, fun t => absurd t (by decide), fun _ => vx_CI_mono (vc_74 (d := d) hT W wo s.2.1 X) ?_⟩
    rintro r3 gp _ ⟨Fp, cp⟩ hTp
    have sp : vn_st g0 u0 L gp u := ⟨vx_fr_trans s.1 (vx_fr_mono Fp (fun a k q => Or.inl q)), vn_S_fr s.2.1 Fp (fun k => ⟨by omega, by omega⟩), fun v hv q => by rw [vx_fr_J Fp (by omega)]; exact s.2.2.1 v hv q, s.2.2.2.1, fun w hw nl => (vn_ag_fr Fp (fun k => by omega)).mpr (s.2.2.2.2 w hw nl)⟩
    have ctp : vn_ct gp = vn_ct g := by
      unfold vn_ct
      congr 1
      funext i
      rw [vx_fr_J Fp (by omega)]
    have Xp := vn_lx_fr X0 sp.1 (fun a k q => vn_W2_x q)
    refine ⟨fun q => ?_, fun q => ⟨sp.1, Or.inr ⟨rfl, fun w hw t => ?_⟩⟩⟩
    · have may : ∀ j', j' < L.1 → vn_m gp u (L.2.1 j') (L.2.2.1 j') (L.2.2.2.2 j') := by
        rcases cp with ⟨_, t⟩ | ⟨t, _⟩
        · exact fun j' h' => vn_m_fr Fp (fun k => by omega) (t j' h')
        · exact absurd t q
      refine vc_76_25 (d := d) (gp := gp) (up := u) W wo n8 X0 sp (fun g1 v1 v2 v3 hv1 hT1 pa => ?_) L.1 0 gp 0 _ v3 (by omega) (by omega) (by rw [Xp.1]; omega) (Or.inl rfl) hTp (Or.inl ⟨rfl, rfl, fun j' h' => absurd h' (by omega)⟩)
      rcases pa with ⟨e1, e2, cl⟩ | ⟨e1, u1, s1, c1⟩
      · subst e1
        subst e2
        -- all variables have values
        have al : ∀ v, v < n → vx_J g1 664 v ≠ 0 := by
          intro v hv
          refine bd v hv (fun i => vx_J g1 664 i ≠ 0) (fun j hj => ⟨fun k i hi => ?_, fun k5 h1 h2 => (cl j hj).1 k5 h1 h2, fun k61 h => ?_⟩)
          · obtain ⟨kk, k1, k2⟩ := hi
            exact sp.2.2.1 i k2.1 (at0 j hj k i ⟨kk, k1, k2⟩)
          · have t := (cl j hj).2 k61
            rcases h with h | h
            · exact ⟨h, t.mp h⟩
            · exact ⟨t.mpr h, h⟩
        have th : ∀ j, j < L.1 → ∀ k, k < 4 → vn_th g1 (L.2.2.2.2 j k) := fun j hj k hk i hi => al i ((W j hj).2.2.2.1 k hk i hi)
        have nl : vn_nl L u := fun j hj => ⟨fun k5 => by
          have t := (may j hj).2 k5 (th j hj 1 (by omega)) (th j hj 2 (by omega))
          exact ⟨t.1.1, t.1.2.1, t.1.2.2, t.2 (th j hj 0 (by omega))⟩, fun kr => (may j hj).1 kr (th j hj 0 (by omega)) (th j hj 1 (by omega))⟩
        have Bp : vn_db g1 Pd lim rr := vn_db_fr B0 sp.1 ⟨by omega, fun i _ => ⟨by omega, fun k _ => by omega⟩⟩
        refine vg_76_2 hT1 ⟨by decide, fun _ => ?_, fun t => absurd rfl t⟩
        exact vc_76_192 (d := d) n8 W Xp Bp hT1 sp al nl L.1 0 _ v3 (by omega) (by omega) (by rw [Xp.1]; omega) (fun j' h' => absurd h' (by omega))
      · have e1' : v1 = 1 := by omega
        subst e1'
        have le8 : vn_ct g1 ≤ 8 := vr_n_le _ 8
        exact IH (8 - vn_ct g1) (by omega) g1 u1 v2 v3 rfl hT1 s1
    · rcases cp with ⟨t', _⟩ | ⟨_, t'⟩
      · omega
      · exact t' w (s.2.2.2.2 w hw t.1) t.1
theorem vc_76 (hT : vx_T 625 672 h) (W : vz_wf O1 n L) (wo : ∀ j, j < L.1 → L.2.1 j = 5 → vy_opn (L.2.2.1 j)) (n8 : n ≤ 8) (bd : ∀ v, v < n → vz_bd L v) (X : vn_lx h c Pd L) (B : vn_db h Pd lim rr) (S : vn_S h u) (at0 : ∀ j, j < L.1 → L.2.1 j = 14 → ∀ i, vz_lv L j i → vx_J h 664 i ≠ 0) : vx_CI (d + 4) 76 [.ref 625] h (vn_fP h u n lim rr L) :=
  vg_76 hT (vc_76_2 (d := d) W wo n8 bd X B at0 (8 - vn_ct h) h u none none rfl hT ⟨vx_fr_refl, S, fun _ _ q => q, vn_ag_refl, fun w hw _ => hw⟩)
end
