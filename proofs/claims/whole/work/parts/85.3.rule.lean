/-! A rule in a round, all together: the class -/
section
variable {d o pi a r : Nat} {S : vu_S} {R : vu_R} {σ : Nat → Nat} {b : Nat → Int} {st : Nat → Nat} {tn fr sd sN x : Int} {s t c0 N cnt : Nat} {r0 rr : Nat → Nat → Int} {m0 cm : Nat → Int} {h h1 g : ve_H}
/-- another step takes the new rows -/
theorem vm_cx_f (C : vm_cx h o pi a R σ b st sN tn fr sd) (F : vx_fr (fun a k => a = 21 ∧ k = 11) h h1) (e : vx_J h1 21 11 = x) : vm_cx h1 o pi a R σ b st sN tn x sd := by
  obtain ⟨⟨⟨r1, r2, r3⟩, r4, r5, r6, r7, r8⟩, c2, c3, c4, c5, c6, c7, c8, c9, c10⟩ := C
  have t := vm_o r2
  have p := (vx_po c5).2.2.2.2.2.2
  refine ⟨⟨⟨(vx_fr_R F (by omega)).trans r1, r2, vy_cl_fr r3 F ⟨by omega, fun k => ⟨by omega, by omega, by omega, by omega⟩⟩⟩, (vx_fr_J F (by omega)).trans r4, fun k hk => (vx_fr_K F (by omega)).trans (r5 k hk), vy_co_fr r6 F ⟨by omega, by omega, by omega⟩, (vx_fr_J F (by omega)).trans r7, r8⟩, vz_st_fr c2 F (fun k => ⟨by omega, by omega, by omega⟩), (vx_fr_J F (by omega)).trans c3, (vx_fr_R F (by omega)).trans c4, c5, fun q hq => (vx_fr_J F (by omega)).trans (c6 q hq), (vx_fr_J F (by omega)).trans c7, (vx_fr_J F (by omega)).trans c8, e, (vx_fr_R F (by omega)).trans c10⟩
/-- an atom of the stratum ahead of a step -/
def vm_ow (st : Nat → Nat) (s : Nat) (R : vu_R) (σ : Nat → Nat) (e : Nat) : Prop := ∃ e', e' < e ∧ R.2.2.2.2.2.1 (σ e') = 14 ∧ st (R.2.2.2.2.2.2.1 (σ e')).toNat = s
/-- the engine takes a rule -/
theorem vm_cx_mk (oo : vx_o 1 625 7 o) (cr : vu_cr h o R) (n8 : R.2.2.2.1 ≤ 8) (z1 : vz_st h o R.2.2.2.2 R.2.2.2.2.1 σ b) (z2 : vx_J h o 15 = sd) (c3 : ve_R h 21 6 = some pi) (opi : vx_o 1 625 5 pi) (c2 : vs_cs h pi st) (c4 : vx_J h 21 9 = sN) (c5 : vx_J h 21 10 = tn) (F6 : vx_fr (fun a k => a = 21 ∧ (k = 7 ∨ k = 8)) h g) (r7 : ve_R g 21 7 = some o) (r8 : ve_R g 21 8 = some a) : vm_cx g o pi a R σ b st sN tn (vx_J g 21 11) sd := by
  have too := vm_o oo
  have ppo := (vx_po opi).2.2.2.2.2.2
  have n : ∀ x k, x ≠ 21 → ¬ (x = 21 ∧ (k = 7 ∨ k = 8)) := fun x k q t => q t.1
  obtain ⟨k1, k2, k3, k4, k5, _⟩ := cr
  refine ⟨⟨⟨r7, oo, vy_cl_fr k5 F6 ⟨n o 6 (by omega), fun k => ⟨n _ k (by omega), n _ k (by omega), n _ k (by omega), n _ k (by omega)⟩⟩⟩, (vx_fr_J F6 (n o 0 (by omega))).trans k1, fun k hk => (vx_fr_K F6 (n _ k (by omega))).trans (k2 k hk), vy_co_fr k3 F6 ⟨n o 2 (by omega), n o 3 (by omega), n o 4 (by omega)⟩, (vx_fr_J F6 (n o 5 (by omega))).trans k4, n8⟩, vz_st_fr z1 F6 (fun k => ⟨n _ k (by omega), n _ k (by omega), n _ k (by omega)⟩), (vx_fr_J F6 (n o 15 (by omega))).trans z2, (vx_fr_R F6 (by omega)).trans c3, opi, fun q hq => (vx_fr_J F6 (n _ q (by omega))).trans (c2 q hq), (vx_fr_J F6 (by omega)).trans c4, (vx_fr_J F6 (by omega)).trans c5, rfl, r8⟩
theorem vm_Qr_fr {Sx : Nat → Nat → Prop} (Q : vm_Qr S st s t c0 r0 m0 h cnt rr cm) (F : vx_fr Sx h h1) (hs : ∀ a k, Sx a k → a < 23 ∨ 30 < a) : vm_Qr S st s t c0 r0 m0 h1 cnt rr cm := ⟨vm_M_fr Q.1 F hs, fun i hi => (vx_fr_J F (fun q => absurd (hs _ _ q) (by omega))).trans (Q.2.1 i hi), Q.2.2⟩
/-- what a rule leaves -/
def vm_rp (S : vu_S) (st : Nat → Nat) (s t c0 : Nat) (r0 : Nat → Nat → Int) (m0 : Nat → Int) (N : Nat) (R : vu_R) (cnt : Nat) (rr : Nat → Nat → Int) (h1 : ve_H) : Prop := (vx_J h1 21 12 = 0 ∧ ∃ cnt1 rr1 cm1, vm_Qr S st s t c0 r0 m0 h1 cnt1 rr1 cm1 ∧ vm_ke cnt rr cnt1 rr1 ∧ (st R.1.toNat = s → (∀ f, vm_nr R (t = 0) (vm_mt S st s t) f → ∃ i, i < cnt1 ∧ vr_eq 5 (rr1 i) f) ∧ (t = 0 → R.2.2.1.1 ≠ -1 → ∃ l, vm_lg R (vm_mt S st s 0) l))) ∨ (vx_J h1 21 12 ≠ 0 ∧ vm_en h1 ∧ vm_big S st N)
/-- rows of the round's beginning are there -/
theorem vm_bs_in (V : vm_lv S st s t c0 r0 m0) (B : vm_bs c0 r0 m0 st sN tn cnt rr cm) {f : Nat → Int} (q : vm_mt S st s t f) : ∃ i, i < cnt ∧ vr_eq 5 (rr i) f := by
  obtain ⟨i, i1, i2⟩ := (V.1 f).mp q
  exact ⟨i, by have := B.1; omega, vr_eq_trans (B.2.1 i i1).1 i2⟩
/-- a rule that doesn't ask on its own stratum -/
theorem vm_tail (P : vm_pg S st) (hr : r < S.2.2.1) (eR : S.2.2.2.1 r = R) (hst : st R.1.toNat = s) (hsN : s < N) (ht : t ≤ 300) (V : vm_lv S st s t c0 r0 m0) (C : vm_cx g o pi a R σ b st s ((t : Int) + 1) fr sd) (ha : (R.2.2.1.1 = -1 ∧ a = 23) ∨ (R.2.2.1.1 ≠ -1 ∧ a = 34)) (al : ∀ v, v < R.2.2.2.1 → vb (b R.2.2.2.2.1) v = true) (h7 : R.2.2.1.1 ≠ -1 → sd = 7) (hG : R.2.2.1.1 = -1 → ∀ e : Nat, sd ≤ e → e ≤ R.2.2.2.2.1 → ∀ i, vu_go R i → vb (b e) i = true) (no : ∀ j, j < R.2.2.2.2.1 → R.2.2.2.2.2.1 j = 14 → st (R.2.2.2.2.2.2.1 j).toNat ≠ s) (hT : vx_T 1 625 g) (F : vx_fr vm_Wr h g) (g34 : vx_J g 34 0 = (5 : Nat)) (Q : vm_Qr S st s t c0 r0 m0 g cnt rr cm) (j0 : vx_J g 21 12 = 0) :
    (((vx_J g 21 10) = 1 → (∀ h7, h7 = vx_sJ g 21 11 ((-1)) → vx_T 1 625 h7 → vx_CV (d + 10) 172 [.ref 34] h7 (fun h8 => vx_T 1 625 h8 → vx_CV (d + 10) 109 [.ref 21, .int (vx_i 0)] h8 (fun h9 => vx_T 1 625 h9 → (∃ b10, ve_R h9 21 7 = some b10 ∧ vx_o 1 625 7 b10 ∧ (((vx_J h9 b10 2) = ((-1)) → vx_fr vm_Wr h h9 ∧ vm_rp S st s t c0 r0 m0 N R cnt rr h9) ∧ ((vx_J h9 b10 2) ≠ ((-1)) → vx_CV (d + 10) 117 [.ref 21] h9 (fun h12 => vx_T 1 625 h12 → vx_fr vm_Wr h h12 ∧ vm_rp S st s t c0 r0 m0 N R cnt rr h12)))))))) ∧ ((vx_J g 21 10) ≠ 1 → vx_fr vm_Wr h g ∧ vm_rp S st s t c0 r0 m0 N R cnt rr g)) := by
  have hW := vm_pg_W P
  have hsr := vm_pg_sr P hr eR hst
  have hs := vm_surj C.2.1
  have ke0 : vm_ke cnt rr cnt rr := fun i hi => ⟨i, hi, fun _ _ => rfl⟩
  have W := P.1.1 r hr
  rw [eR] at W
  rw [C.2.2.2.2.2.2.2.1]
  refine ⟨fun q => ?_, fun q => ⟨F, Or.inl ⟨j0, cnt, rr, cm, Q, ke0, fun _ => ⟨fun f hf => ?_, fun t0 => by omega⟩⟩⟩⟩
  · have t0 : t = 0 := by omega
    subst t0
    rintro g7 e7 hT7
    have F7 : vx_fr (fun a k => a = 21 ∧ k = 11) g g7 := vx_fr_sJ vx_fr_refl e7 ⟨rfl, rfl⟩
    have C7 := vm_cx_f C F7 (x := -1) (by rw [e7, vx_J_eq (by decide)])
    refine vx_CV_mono (vc_172 (d := d + 9) (rr := rr) hT7 vm_K34.1 ((vx_fr_J F7 (by omega)).trans g34)) ?_
    rintro h8 ⟨F8, G8⟩ hT8
    have C8 := vm_cx_fr C7 F8 (fun a k q => vm_tg_W vm_t34 q)
    have kk := vm_K34
    have j8 : vx_J h8 21 12 = 0 := (vx_fr_J F8 (by omega)).trans ((vx_fr_J F7 (by omega)).trans j0)
    have Q8 : vm_Qr S st s 0 c0 r0 m0 h8 cnt rr cm := vm_Qr_fr (vm_Qr_fr Q F7 (fun a k q => by omega)) F8 (fun a k q => by omega)
    have FF8 : vx_fr vm_Wr h h8 := vx_fr_trans F (vx_fr_trans (vx_fr_mono F7 (fun a k q => by omega)) (vx_fr_mono F8 (fun a k q => by omega)))
    rcases ha with ⟨hO, rfl⟩ | ⟨hO, rfl⟩
    · refine vx_CV_mono (vm_runA (d := d) P hr eR hst hO hsN ht V C8 al (hG hO) hT8 Q8 j8) ?_
      rintro h9 ⟨F9, q9⟩ hT9
      have C9 := vm_cx_fr C8 F9 (fun a k q => vm_Wn_W q)
      have FF9 := vx_fr_trans FF8 (vx_fr_mono F9 (fun a k q => Or.inl q))
      refine ⟨o, C9.1.1.1, C9.1.1.2.1, fun _ => ⟨FF9, ?_⟩, fun q => absurd (C9.1.2.2.2.1.1.trans hO) q⟩
      rcases q9 with ⟨j9, cnt1, rr1, cm1, Q1, k1, u1⟩ | q9
      · refine Or.inl ⟨j9, cnt1, rr1, cm1, Q1, k1, fun _ => ⟨fun f hf => ?_, fun _ t => absurd hO t⟩⟩
        rcases hf with ⟨_, u, u2, u3⟩ | ⟨t, _⟩
        · obtain ⟨i, i1, i2⟩ := u1 u (vm_sat_so V.1 hs.1 (fun j hj k => by have := no j hj k; omega) u2)
          exact ⟨i, i1, vr_eq_trans i2 (vr_eq_symm u3)⟩
        · exact absurd hO t
      · exact Or.inr q9
    · refine vx_CV_mono (vm_runB (d := d) P hr eR hst hO hsN V C8 al (h7 hO) hT8 Q8 j8 G8) ?_
      rintro h9 ⟨F9, q9⟩ hT9
      have C9 := vm_cx_fr C8 F9 (fun a k q => vm_Wn_W q)
      have FF9 := vx_fr_trans FF8 (vx_fr_mono F9 (fun a k q => Or.inl q))
      refine ⟨o, C9.1.1.1, C9.1.1.2.1, fun q => absurd (C9.1.2.2.2.1.1.symm.trans q) hO, fun _ => ?_⟩
      rcases q9 with ⟨j9, Q9, l, lg, X⟩ | ⟨j9, c9, e9, b9⟩
      · obtain ⟨_, _, _, gc, gr, am, x1, x2, x3, x4⟩ := X
        obtain ⟨p, m, p1, p2, _, _, m4, _, ov⟩ := W.2.2.2.2.2.2.1
        have p16 : p < 16 := by have := P.2.2.2.1; omega
        have k4 : vm_kt R < 4 := by
          rcases ov with t | ⟨_, k, k1, k2, _⟩
          · exact absurd t hO
          · unfold vm_kt; omega
        refine vx_CV_mono (vg_117 hT9 (vm_tots (d := d + 7) (h := h9) (r := r) (N := N) P hr eR hst hO hsN lg x2 (fun g hg => (x3 g hg).2) gc 0 h9 0 cnt rr cm rfl (by omega) rfl hT9 vx_fr_refl C9.1 C9.2.2.2.2.2.2.2.1 x1 (fun g hg => (x3 g hg).1) j9 Q9 ke0 (fun g' hg' => absurd hg' (by omega)))) ?_
        rintro h12 ⟨F12, q12⟩ _
        refine ⟨vx_fr_trans FF9 (vx_fr_mono F12 (fun a k q => by omega)), ?_⟩
        rcases q12 with ⟨j12, cnt1, rr1, cm1, Q1, k1, u1⟩ | q12
        · refine Or.inl ⟨j12, cnt1, rr1, cm1, Q1, k1, fun _ => ⟨fun f hf => ?_, fun _ _ => ⟨l, lg⟩⟩⟩
          rcases hf with ⟨t, _⟩ | ⟨_, _, hf⟩
          · exact absurd t hO
          · obtain ⟨u, u2, z, z1, z2⟩ := vm_tt_at p1 p16 W.2.2.2.2.1 W.2.2.2.2.2.1 k4 lg hf
            obtain ⟨g', g1, g2⟩ := x4 u u2
            obtain ⟨i, i1, i2⟩ := u1 g' g1
            refine ⟨i, i1, vr_eq_trans i2 (vr_eq_symm (vr_eq_trans z2 (fun c hc => ?_)))⟩
            have ez : am g' = z := by
              have t := (x3 g' g1).2.2.1
              rw [vm_ws_congr g2, z1] at t
              exact (Option.some.inj t).symm
            unfold vm_tr
            by_cases q : c = vm_kt R + 1
            · rw [if_pos q, if_pos q, ez]
            · rw [if_neg q, if_neg q]; exact (g2 c hc).symm
        · exact Or.inr q12
      · refine vx_CV_mono (vm_tots_full (d := d + 7) (Q := fun h12 => h12 = h9) hT9 j9 c9 rfl) ?_
        rintro h12 rfl _
        exact ⟨FF9, Or.inr ⟨j9, e9, b9⟩⟩
  · rcases hf with ⟨hO, u, u1, u2⟩ | ⟨_, t, _⟩
    · have m := vm_new (t := t) (u := u) hW hr eR hst hO (by omega) (vm_sat_low hW hsr no u1)
      obtain ⟨i, i1, i2⟩ := vm_bs_in V Q.2.2.2.1 m
      exact ⟨i, i1, vr_eq_trans i2 (vr_eq_symm u2)⟩
    · omega
/-- the steps of a rule that may take the new rows -/
theorem vm_58 (P : vm_pg S st) (hr : r < S.2.2.1) (eR : S.2.2.2.1 r = R) (hst : st R.1.toNat = s) (hsN : s < N) (ht : t ≤ 300) (V : vm_lv S st s t c0 r0 m0) (ha : (R.2.2.1.1 = -1 ∧ a = 23) ∨ (R.2.2.1.1 ≠ -1 ∧ a = 34)) (al : ∀ v, v < R.2.2.2.1 → vb (b R.2.2.2.2.1) v = true) (h7 : R.2.2.1.1 ≠ -1 → sd = 7) (hG : R.2.2.1.1 = -1 → ∀ e : Nat, sd ≤ e → e ≤ R.2.2.2.2.1 → ∀ i, vu_go R i → vb (b e) i = true) :
    ∀ (m e : Nat) (g : ve_H) (z w : Int) (v4 : Option Value) (fr : Int), m = R.2.2.2.2.1 - e → e ≤ R.2.2.2.2.1 → z = e → vx_rI w → vx_T 1 625 g → vx_fr vm_Wr h g → vm_cx g o pi a R σ b st s ((t : Int) + 1) fr sd → vx_J g 34 0 = (5 : Nat) →
    ((vx_J g 21 12 = 0 ∧ (∃ cnt1 rr1 cm1, vm_Qr S st s t c0 r0 m0 g cnt1 rr1 cm1 ∧ vm_ke cnt rr cnt1 rr1 ∧ ∀ e', e' < e → R.2.2.2.2.2.1 (σ e') = 14 → st (R.2.2.2.2.2.2.1 (σ e')).toNat = s → ∀ u, vm_so R.2.2.2.2 σ (vm_PA c0 r0 m0 st s ((t : Int) + 1) e' R.2.2.2.2 σ) (vm_NA c0 r0) 0 u → ∃ i, i < cnt1 ∧ vr_eq 5 (rr1 i) (vm_gl R u)) ∧ (w = 0 → ¬ vm_ow st s R σ e) ∧ (w ≠ 0 → vm_ow st s R σ e)) ∨ (vx_J g 21 12 ≠ 0 ∧ w ≠ 0 ∧ vm_en g ∧ vm_big S st N)) →
    vx_W (d + 10 + 1) 107 58 [some (.ref 21), some (.ref o), some (.int (vx_i w)), some (.int (vx_i z)), v4] [] g (vx_RV (fun h1 => vx_fr vm_Wr h h1 ∧ vm_rp S st s t c0 r0 m0 N R cnt rr h1)) := by
  have hW := vm_pg_W P
  have hsr := vm_pg_sr P hr eR hst
  intro m
  induction m with
  | zero =>
    intro e g z w v4 fr hm he hz hw hT F C g34 I
    have l6 := C.1.1.2.2.2.1
    have e6 : vx_J g o 6 = R.2.2.2.2.1 := C.1.1.2.2.1
    have hs := vm_surj C.2.1
    have ee : e = R.2.2.2.2.1 := by omega
    subst ee
    refine vg_107_58 C.1.1.2.1 hT ⟨o, C.1.1.1, C.1.1.2.1, by omega, fun _ => ⟨hw, fun q => ⟨F, ?_⟩, fun q => ?_⟩, fun q => absurd q (by omega)⟩
    · rcases I with ⟨j0, ⟨cnt1, rr1, cm1, Q1, k1, u1⟩, _, w1⟩ | ⟨j1, _, e1, b1⟩
      · obtain ⟨e', o1, o2, o3⟩ := w1 q
        refine Or.inl ⟨j0, cnt1, rr1, cm1, Q1, k1, fun _ => ⟨fun f hf => ?_, fun _ hO => ?_⟩⟩
        rotate_left
        · have := (hsr (σ e') (hs.1 e' o1) (Or.inl o2)).2.2 (Or.inr hO)
          omega
        rcases hf with ⟨hO, u, u2, u3⟩ | ⟨hO, _⟩
        · rcases vm_semi hW hsr V hs.1 hs.2 ⟨σ e', hs.1 e' o1, o2, o3⟩ u2 with ⟨t1, t2⟩ | ⟨e2, t1, t2, t3, t4⟩
          · obtain ⟨i, i1, i2⟩ := vm_bs_in V Q1.2.2.2.1 (vm_new (t := t) (u := u) hW hr eR hst hO t1 t2)
            exact ⟨i, i1, vr_eq_trans i2 (vr_eq_symm u3)⟩
          · obtain ⟨i, i1, i2⟩ := u1 e2 t1 t2 t3 u t4
            exact ⟨i, i1, vr_eq_trans i2 (vr_eq_symm u3)⟩
        · have := (hsr (σ e') (hs.1 e' o1) (Or.inl o2)).2.2 (Or.inr hO)
          omega
      · exact Or.inr ⟨j1, e1, b1⟩
    · rcases I with ⟨j0, ⟨cnt1, rr1, cm1, Q1, k1, u1⟩, w0, _⟩ | ⟨_, t, _⟩
      · have no : ∀ j, j < R.2.2.2.2.1 → R.2.2.2.2.2.1 j = 14 → st (R.2.2.2.2.2.2.1 j).toNat ≠ s := fun j hj k1 k2 => by
          obtain ⟨e', e1, e2⟩ := hs.2 j hj
          exact w0 q ⟨e', e1, by rw [e2]; exact k1, by rw [e2]; exact k2⟩
        have T := vm_tail (d := d) (h := h) P hr eR hst hsN ht V C ha al h7 hG no hT F g34 Q1 j0
        have up : ∀ g', (vx_fr vm_Wr h g' ∧ vm_rp S st s t c0 r0 m0 N R cnt1 rr1 g') → vx_fr vm_Wr h g' ∧ vm_rp S st s t c0 r0 m0 N R cnt rr g' := by
          rintro g' ⟨a1, a2⟩
          refine ⟨a1, ?_⟩
          rcases a2 with ⟨a2, c2, rr2, cm2, a3, a4, a5⟩ | a2
          · refine Or.inl ⟨a2, c2, rr2, cm2, a3, fun i hi => ?_, a5⟩
            obtain ⟨j, j1, j2⟩ := k1 i hi
            obtain ⟨j', j3, j4⟩ := a4 j j1
            exact ⟨j', j3, vr_eq_trans j4 j2⟩
          · exact Or.inr a2
        refine ⟨fun q1 g7 e7 hT7 => vx_CV_mono (T.1 q1 g7 e7 hT7) (fun h8 H8 hT8 => vx_CV_mono (H8 hT8) (fun h9 H9 hT9 => ?_)), fun q1 => up g (T.2 q1)⟩
        obtain ⟨b10, y1, y2, y3, y4⟩ := H9 hT9
        exact ⟨b10, y1, y2, fun z1 => up h9 (y3 z1), fun z1 => vx_CV_mono (y4 z1) (fun h12 H12 hT12 => up h12 (H12 hT12))⟩
      · exact absurd q t
  | succ m ih =>
    intro e g z w v4 fr hm he hz hw hT F C g34 I
    have l6 := C.1.1.2.2.2.1
    have e6 : vx_J g o 6 = R.2.2.2.2.1 := C.1.1.2.2.1
    have hs := vm_surj C.2.1
    have he' : e < R.2.2.2.2.1 := by omega
    have cs := C.2.1.1 e he'
    have ck := vm_kd C.1.1 cs.1 (z := ((σ e : Nat) : Int)) rfl
    rw [show ((σ e : Nat) : Int).toNat = σ e by omega] at ck
    refine vg_107_58 C.1.1.2.1 hT ⟨o, C.1.1.1, C.1.1.2.1, by omega, fun q => absurd q (by omega), fun _ => ⟨fun jq => ?_, fun jq => ?_⟩⟩
    · rcases I with ⟨j0, _⟩ | ⟨j1, w1, e1, b1⟩
      · exact absurd j0 jq
      · exact ⟨hw, fun _ => ⟨F, Or.inr ⟨j1, e1, b1⟩⟩, fun q => absurd q w1⟩
    · obtain ⟨⟨cnt1, rr1, cm1, Q1, k1, u1⟩, w0, w1⟩ : (∃ cnt1 rr1 cm1, vm_Qr S st s t c0 r0 m0 g cnt1 rr1 cm1 ∧ vm_ke cnt rr cnt1 rr1 ∧ ∀ e', e' < e → R.2.2.2.2.2.1 (σ e') = 14 → st (R.2.2.2.2.2.2.1 (σ e')).toNat = s → ∀ u, vm_so R.2.2.2.2 σ (vm_PA c0 r0 m0 st s ((t : Int) + 1) e' R.2.2.2.2 σ) (vm_NA c0 r0) 0 u → ∃ i, i < cnt1 ∧ vr_eq 5 (rr1 i) (vm_gl R u)) ∧ (w = 0 → ¬ vm_ow st s R σ e) ∧ (w ≠ 0 → vm_ow st s R σ e) := by
        rcases I with ⟨_, I⟩ | ⟨j1, _⟩
        · exact I
        · exact absurd jq j1
      rw [show z.toNat = e by omega, cs.2.1, show ((σ e : Nat) : Int).toNat = σ e by omega, ck.1, ck.2]
      -- a step that isn't such a one
      have skip : ¬ (R.2.2.2.2.2.1 (σ e) = 14 ∧ st (R.2.2.2.2.2.2.1 (σ e)).toNat = s) → vx_W (d + 10 + 1) 107 58 [some (.ref 21), some (.ref o), some (.int (vx_i w)), some (.int (vx_i (z + 1))), some (.int (vx_i ((σ e : Nat) : Int)))] [] g (vx_RV (fun h1 => vx_fr vm_Wr h h1 ∧ vm_rp S st s t c0 r0 m0 N R cnt rr h1)) := by
        intro ns
        refine ih (e + 1) g (z + 1) w _ fr (by omega) (by omega) (by omega) hw hT F C g34 (Or.inl ⟨jq, ⟨cnt1, rr1, cm1, Q1, k1, fun e' h1' h2' h3' => ?_⟩, fun q => ?_, fun q => ?_⟩)
        · by_cases q : e' = e
          · rw [q] at h2' h3'; exact absurd ⟨h2', h3'⟩ ns
          · exact u1 e' (Nat.lt_of_le_of_ne (Nat.le_of_lt_succ h1') q) h2' h3'
        · rintro ⟨e', a1, a2⟩
          by_cases q2 : e' = e
          · rw [q2] at a2; exact ns a2
          · exact w0 q ⟨e', Nat.lt_of_le_of_ne (Nat.le_of_lt_succ a1) q2, a2⟩
        · obtain ⟨e', a1, a2⟩ := w1 q
          exact ⟨e', Nat.lt_succ_of_lt a1, a2⟩
      have s6 := cs.1
      refine ⟨by omega, by omega, fun k14 => skip (fun t => k14 t.1), fun k14 => ?_⟩
      obtain ⟨⟨p, hp, p16⟩, _, hlt⟩ := hsr (σ e) cs.1 (Or.inl k14)
      have est : vx_J g (vx_r pi 2) p = st p := by rw [(vx_po C.2.2.2.2.1).2.2.1]; exact C.2.2.2.2.2.1 p p16
      rw [hp, show ((p : Nat) : Int).toNat = p by omega] at skip hlt ⊢
      refine ⟨pi, C.2.2.2.1, C.2.2.2.2.1, by omega, by omega, ?_⟩
      rw [est, C.2.2.2.2.2.2.1]
      refine ⟨fun ne => skip (fun t => ne (by omega)), fun eq => ?_⟩
      rintro g30 e30 hT30
      have hO : R.2.2.1.1 = -1 := by
        by_cases q : R.2.2.1.1 = -1
        · exact q
        · have := hlt (Or.inr q); omega
      have ea : a = 23 := by
        rcases ha with ⟨_, q⟩ | ⟨q, _⟩
        · exact q
        · exact absurd hO q
      have F30 : vx_fr (fun a k => a = 21 ∧ k = 11) g g30 := vx_fr_sJ vx_fr_refl e30 ⟨rfl, rfl⟩
      have C30 := vm_cx_f C F30 (x := z) (by rw [e30, vx_J_eq (by omega)])
      have C30' := C30
      rw [ea, hz] at C30'
      refine vx_CV_mono (vm_runA (d := d) (N := N) P hr eR hst hO hsN ht V C30' al (hG hO) hT30 (vm_Qr_fr Q1 F30 (fun a k q => by omega)) ((vx_fr_J F30 (by omega)).trans jq)) ?_
      rintro h31 ⟨F31, q31⟩ hT31
      have FF : vx_fr vm_Wr h h31 := vx_fr_trans F (vx_fr_trans (vx_fr_mono F30 (fun a k q => by omega)) (vx_fr_mono F31 (fun a k q => Or.inl q)))
      refine ih (e + 1) h31 (z + 1) 1 _ z (by omega) (by omega) (by omega) (by decide) hT31 FF (vm_cx_fr C30 F31 (fun a k q => vm_Wn_W q)) ((vx_fr_J F31 (by omega)).trans ((vx_fr_J F30 (by omega)).trans g34)) ?_
      rcases q31 with ⟨j31, cnt2, rr2, cm2, Q2, k2, u2⟩ | ⟨j31, e31, b31⟩
      · have ow : R.2.2.2.2.2.1 (σ e) = 14 ∧ st (R.2.2.2.2.2.2.1 (σ e)).toNat = s := ⟨k14, by rw [hp, show ((p : Nat) : Int).toNat = p by omega]; omega⟩
        refine Or.inl ⟨j31, ⟨cnt2, rr2, cm2, Q2, fun i hi => ?_, fun e' h1' h2' h3' u hu => ?_⟩, fun q => absurd q (by decide), fun _ => ⟨e, by omega, ow⟩⟩
        · obtain ⟨j, j1, j2⟩ := k1 i hi
          obtain ⟨j', j3, j4⟩ := k2 j j1
          exact ⟨j', j3, vr_eq_trans j4 j2⟩
        · by_cases q : e' = e
          · subst q; exact u2 u hu
          · obtain ⟨i, i1, i2⟩ := u1 e' (by omega) h2' h3' u hu
            obtain ⟨j', j3, j4⟩ := k2 i i1
            exact ⟨j', j3, vr_eq_trans j4 i2⟩
      · exact Or.inr ⟨j31, by decide, e31, b31⟩
theorem vc_107 (P : vm_pg S st) (hr : r < S.2.2.1) (hsN : s < N) (ht : t ≤ 300) (V : vm_lv S st s t c0 r0 m0) (C : vm_rc h pi S st s ((t : Int) + 1)) (hT : vx_T 1 625 h) (Q : vm_Qr S st s t c0 r0 m0 h cnt rr cm) (j0 : vx_J h 21 12 = 0) : vx_CV (d + 11) 107 [.ref 21, .ref (pi + 10 + 9 * r)] h (fun h1 => vx_fr vm_Wr h h1 ∧ vm_rp S st s t c0 r0 m0 N (S.2.2.2.1 r) cnt rr h1) := by
  obtain ⟨c1, c2, c3, c4, c5, c6⟩ := C
  obtain ⟨R, eR⟩ : ∃ R, S.2.2.2.1 r = R := ⟨_, rfl⟩
  have W := P.1.1 r hr
  rw [eR] at W
  rw [eR]
  have opi := c1.1.1
  have oo : vx_o 1 625 7 (pi + 10 + 9 * r) := vx_rk opi (by have := P.2.2.2.2; omega)
  have cr := c1.2.2.2 r hr
  rw [eR] at cr
  obtain ⟨p, m, p1, p2, _⟩ := W.2.2.2.2.2.2.1
  have p16 : p < 16 := by have := P.2.2.2.1; omega
  have est : vx_J h (vx_r pi 2) p = st p := by rw [(vx_po opi).2.2.1]; exact c2 p p16
  obtain ⟨σ, b, sd, z1, z2, z3, z4, z5⟩ := vm_plan cr W.1 W.2.2.2.1 W.2.2.2.2.1
  have ppo := (vx_po opi).2.2.2.2.2.2
  have too := vm_o oo
  refine vg_107 oo hT ⟨pi, c3, opi, ?_⟩
  rw [cr.1, p1, show ((p : Nat) : Int).toNat = p by omega, est, c4]
  refine ⟨by omega, fun q => ?_, fun q => ⟨vx_fr_refl, Or.inl ⟨j0, cnt, rr, cm, Q, fun i hi => ⟨i, hi, fun _ _ => rfl⟩, fun t => ?_⟩⟩⟩
  · have hst : st R.1.toNat = s := by rw [p1, show ((p : Nat) : Int).toNat = p by omega]; omega
    rintro g4 e4 hT4
    have F4 : vx_fr (fun a k => a = 21 ∧ (k = 7 ∨ k = 8)) h g4 := vx_fr_sR vx_fr_refl e4 (by omega)
    have fin : ∀ (a : Nat) (g6 : ve_H), ((R.2.2.1.1 = -1 ∧ a = 23) ∨ (R.2.2.1.1 ≠ -1 ∧ a = 34)) → g6 = ve_sR g4 21 8 (some a) → vx_T 1 625 g6 → vx_W (d + 10 + 1) 107 58 [some (.ref 21), some (.ref (pi + 10 + 9 * r)), some (.int (vx_i 0)), some (.int (vx_i 0)), none] [] g6 (vx_RV (fun h1 => vx_fr vm_Wr h h1 ∧ vm_rp S st s t c0 r0 m0 N R cnt rr h1)) := by
      intro a g6 ha e6 hT6
      have F6 : vx_fr (fun a k => a = 21 ∧ (k = 7 ∨ k = 8)) h g6 := vx_fr_sR F4 e6 (by omega)
      have r7 : ve_R g6 21 7 = some (pi + 10 + 9 * r) := by rw [e6, ve_R_sR, if_neg (by omega), e4, ve_R_sR, if_pos ⟨rfl, rfl⟩]
      have r8 : ve_R g6 21 8 = some a := by rw [e6, ve_R_sR, if_pos ⟨rfl, rfl⟩]
      have C6 := vm_cx_mk (a := a) oo cr W.2.1 z1 z2 c3 opi c2 c4 c5 F6 r7 r8
      exact vm_58 (d := d) (h := h) (N := N) P hr eR hst hsN ht V ha z3 z4 z5 R.2.2.2.2.1 0 g6 0 0 none (vx_J g6 21 11) (by omega) (by omega) rfl (by decide) hT6 (vx_fr_mono F6 (fun a k q => by omega)) C6 ((vx_fr_J F6 (by omega)).trans c6) (Or.inl ⟨(vx_fr_J F6 (by omega)).trans j0, ⟨cnt, rr, cm, vm_Qr_fr Q F6 (fun a k q => by omega), fun i hi => ⟨i, hi, fun _ _ => rfl⟩, fun e' he' => absurd he' (by omega)⟩, fun _ t => by
        obtain ⟨e', he', _⟩ := t
        omega, fun q => absurd rfl q⟩)
    have o2 : vx_J g4 (pi + 10 + 9 * r) 2 = R.2.2.1.1 := (vx_fr_J F4 (by omega)).trans cr.2.2.1.1
    rw [o2]
    exact ⟨fun q2 h6 e6 hT6 => fin 34 h6 (Or.inr ⟨q2, rfl⟩) e6 hT6, fun q2 h7 e7 hT7 => fin 23 h7 (Or.inl ⟨q2, rfl⟩) e7 hT7⟩
  · rw [p1, show ((p : Nat) : Int).toNat = p by omega] at t
    omega
end
