/-! A stratum: the reference -/
section
variable {d c m p sd r s t N c0 cnt gc : Nat} {h h1 g : ve_H} {S : vu_S} {R : vu_R} {st : Nat → Nat} {rr r0 gr : Nat → Nat → Int} {cm m0 am : Nat → Int} {x : Int} {l : List (Nat → Int)}
theorem vn_Qr_fr {Sx : Nat → Nat → Prop} (Q : vn_Qr S st s t c0 r0 m0 h cnt rr cm) (F : vx_fr Sx h h1) (hs : ∀ a k, Sx a k → a ≠ 650 ∧ a ≠ 651 ∧ a ≠ 652 ∧ (a = 625 → k ≠ 32)) : vn_Qr S st s t c0 r0 m0 h1 cnt rr cm := ⟨vn_T_fr Q.1 F hs, Q.2⟩
/-- a rule with a total -/
theorem vc_88 (PG : vm_pg S st) (w3 : vu_w3 S) (hr : r < S.2.2.1) (eR : S.2.2.2.1 r = R) (hst : st R.1.toNat = s) (hO : R.2.2.1.1 ≠ -1) (hsN : s < N) (V : vm_lv S st s 0 c0 r0 m0) (C : vn_pc h sd S st) (hT : vx_T 625 672 h) (e65 : vx_J h 625 65 = c0) (e67 : vx_J h 625 67 = 1) (Q : vn_Qr S st s 0 c0 r0 m0 h cnt rr cm) (j0 : vx_J h 625 68 = 0) (hx : x = ((30 * sd + r : Nat) : Int)) : vx_CV (d + 10) 88 [.ref 625, .int (vx_i x)] h (fun h1 => vx_fr vn_Wr h h1 ∧ vn_rp S st s 0 c0 r0 m0 N R cnt rr h1) := by
  have W := PG.1.1 r hr
  have na := w3 r hr
  have n30 := PG.2.2.2.2
  have sd2 := C.1.1.1
  rw [eR] at W na
  obtain ⟨p, m, p1, p2, p3, H0⟩ := vn_pc_hd C hr eR
  have p16 : p < 16 := by have := PG.2.2.2.1; omega
  obtain ⟨o69, ktm, k4⟩ : (6 ≤ R.2.2.1.1 ∧ R.2.2.1.1 ≤ 9) ∧ vm_kt R < m ∧ vm_kt R < 4 := by
    obtain ⟨p', m', a1, a2, a3, a4, a5, a6, ov⟩ := W.2.2.2.2.2.2.1
    have ep : p' = p := by omega
    subst ep
    rcases ov with t | ⟨t, k, k1, k2, _⟩
    · exact absurd t hO
    · exact ⟨t, by unfold vm_kt; omega, by unfold vm_kt; omega⟩
  have okt : R.2.2.1.2.1 = (vm_kt R : Nat) := by
    obtain ⟨p', m', a1, a2, a3, a4, a5, a6, ov⟩ := W.2.2.2.2.2.2.1
    rcases ov with t | ⟨t, k, k1, k2, _⟩
    · exact absurd t hO
    · unfold vm_kt; omega
  have rR := C.2.2.1 r hr
  rw [eR] at rR
  have h39 : vx_J h 639 (30 * sd + r) = R.2.2.1.1 - 4 := by rw [rR.2.2.1, if_neg hO]
  have h40 : vx_J h 640 (30 * sd + r) = (vm_kt R : Nat) := by rw [(rR.2.2.2.1 hO).1, okt]
  refine vg_88 (d := d + 9) hT (fun g1 e1 _ g2 e2 hT2 => ?_)
  have F2 : vx_fr (fun a k => a = 625 ∧ (k = 75 ∨ k = 66)) h g2 := vx_fr_sJ (vx_fr_sJ vx_fr_refl e1 (by omega)) e2 (by omega)
  have C2 := vn_pc_fr C F2 (fun a k q => by omega)
  have H2 := vn_hd_fr H0 F2 (fun a k q => by omega)
  have Q2 := vn_Qr_fr Q F2 (fun a k q => by omega)
  have j75 : vx_J g2 625 75 = 0 := by rw [e2, vx_J_ne (by omega), e1, vx_J_eq (by decide)]
  have j66 : vx_J g2 625 66 = 1 := by rw [e2, vx_J_eq (by decide)]
  have j65 : vx_J g2 625 65 = c0 := (vx_fr_J F2 (by omega)).trans e65
  have rl := (C2.2.2.1 r hr).2.1
  rw [eR] at rl
  have X0 : ∀ h', vx_fr vn_W6 g2 h' → vn_XB g2 R (vm_kt R) m [] h' := fun h' F => ⟨vx_fr_mono F (fun a k q => Or.inl q), 0, fun _ _ => 0, fun _ => 0, (vx_fr_J F (by omega)).trans j75, by omega, fun g hg => absurd hg (by omega), fun u hu => absurd hu List.not_mem_nil, fun g g' hg => absurd hg (by omega)⟩
  refine vx_CV_mono (vc_79 (d := d) (fun jn js => vn_HB p1 p2 p3 o69 ktm W.2.2.2.2.1 W.2.1 C2.1 H2 (by omega) ((vx_fr_J F2 (by omega)).trans h39) ((vx_fr_J F2 (by omega)).trans h40) (vn_T_db Q2.1 Q2.2.2.1 j65 Q2.2.1) rfl) W.1 (fun j hj k => (W.2.2.2.2.2.2.2.1 j hj).2.2 k) W.2.1 W.2.2.2.1 (vn_inj Q.1 Q.2.2.1) na X0 ((vx_fr_J F2 (by omega)).trans j0) hx (by omega) hT2 rl j66) ?_
  rintro h3 ⟨F3, q⟩ hT3
  rw [vn_eD V] at q
  have C3 := vn_pc_fr C2 F3 (fun a k q => by omega)
  have H3 := vn_hd_fr H2 F3 (fun a k q => by omega)
  have F23 : vx_fr vn_Wr h h3 := vx_fr_trans (vx_fr_mono F2 (fun a k q => by omega)) (vx_fr_mono F3 (fun a k q => Or.inl q))
  rw [show x.toNat = 30 * sd + r by omega, H3.1, p1]
  refine ⟨by omega, vx_CI_mono (vc_83 hT3 C3.1 p2 rfl) ?_⟩
  rintro r5 h5 _ ⟨rfl, e5⟩ _
  rcases q with ⟨j1, l', l1, l2, l3, Fx, gc, gr, am, G⟩ | ⟨j1, l', l1, Fx, gr, gf1, gf2⟩
  · have lg : vm_lg R (vm_mt S st s 0) l' := ⟨l1, l2, l3 (fun j hj k => (W.1 j hj).2.2.2.2 (Or.inr (Or.inr ⟨k, hO⟩)))⟩
    have Q3 := vn_Qr_fr Q2 Fx (fun a k q => by omega)
    refine vx_mono (vc_88_28 (d := d + 8) (N := N) (c0 := c0) (r0 := r0) (m0 := m0) (cntS := cnt) (rrS := rr) PG hr eR hst hO hsN C3 rfl hx p1 p2 p3 H3 (e5.trans p3) ((vx_fr_J Fx (by omega)).trans ((vx_fr_J F2 (by omega)).trans h40)) ktm ((vx_fr_J Fx (by omega)).trans ((vx_fr_J F2 (by omega)).trans e67)) lg G gc 0 h5 0 none cnt rr cm rfl (by omega) rfl hT3 vx_fr_refl j1 Q3 (fun i hi => ⟨i, hi, fun _ _ => rfl⟩) (fun g' h' => absurd h' (by omega))) ?_
    rintro _ h1 ⟨hx1, F1, q1⟩
    refine ⟨hx1, vx_fr_trans F23 (vx_fr_mono F1 (fun a k q => by omega)), ?_⟩
    rcases q1 with ⟨j2, cnt1, rr1, cm1, Q1, k1, u1⟩ | q1
    · refine Or.inl ⟨j2, cnt1, rr1, cm1, Q1, k1, fun f hf => ?_, fun _ _ => ⟨l', lg⟩⟩
      rcases hf with ⟨t, _⟩ | ⟨_, _, hf⟩
      · exact absurd t hO
      · obtain ⟨u, u2, z, z1, z2⟩ := vm_tt_at p1 p16 W.2.2.2.2.1 W.2.2.2.2.2.1 k4 lg hf
        obtain ⟨g', g1, g2⟩ := G.2.2.2.1 u u2
        obtain ⟨i, i1, i2⟩ := u1 g' g1
        refine ⟨i, i1, vr_eq_trans i2 (vr_eq_symm (vr_eq_trans z2 (fun c hc => ?_)))⟩
        have ez : am g' = z := by
          have t := (G.2.2.1 g' g1).2.2.2.1
          rw [vm_ws_congr g2, z1] at t
          exact (Option.some.inj t).symm
        unfold vm_tr
        by_cases q : c = vm_kt R + 1
        · rw [if_pos q, if_pos q, ez]
        · rw [if_neg q, if_neg q]; exact (g2 c hc).symm
    · exact Or.inr q1
  · have fin : vx_fr vn_Wr h h5 ∧ vn_rp S st s 0 c0 r0 m0 N R cnt rr h5 := by
      refine ⟨F23, Or.inr ⟨j1, Or.inr ⟨s, r, fun g => if hg : g < 201 then (gf1 g hg).choose else fun _ => 0, hsN, hr, by rw [eR]; exact hst, by rw [eR]; exact hO, fun g hg => ?_, fun g g' hg hg' e => ?_⟩⟩⟩
      · dsimp only
        rw [dif_pos hg, eR]
        exact (l1 _ (gf1 g hg).choose_spec.1).1
      · dsimp only at e
        rw [dif_pos hg, dif_pos hg', eR] at e
        exact gf2 g g' hg hg' (vr_eq_trans (gf1 g hg).choose_spec.2 (vr_eq_trans e (vr_eq_symm (gf1 g' hg').choose_spec.2)))
    exact vg_88_28 (d := d + 9) hT3 ⟨by decide, fun _ => fin, fun _ => ⟨fun _ => fin, fun q => absurd q j1⟩⟩
/-- behind a round -/
theorem vn_round (V : vm_lv S st s t c0 r0 m0) (Q : vn_Qr S st s t c0 r0 m0 g cnt rr cm) (al : ∀ r', r' < S.2.2.1 → st (S.2.2.2.1 r').1.toNat = s → (∀ f, vm_nr (S.2.2.2.1 r') (t = 0) (vm_mt S st s t) f → ∃ i, i < cnt ∧ vr_eq 5 (rr i) f) ∧ (t = 0 → (S.2.2.2.1 r').2.2.1.1 ≠ -1 → ∃ l, vm_lg (S.2.2.2.1 r') (vm_mt S st s 0) l)) : vm_lv S st s (t + 1) cnt rr cm ∧ (t = 0 → vm_lg0 S st s) ∧ c0 ≤ cnt ∧ (cnt = c0 → ∀ f, vm_mt S st s (t + 1) f → vm_mt S st s t f) := by
  obtain ⟨q1, q3, q4, q5⟩ := Q
  have E : ∀ f, vm_mt S st s (t + 1) f ↔ ∃ i, i < cnt ∧ vr_eq 5 (rr i) f := by
    intro f
    constructor
    · rintro (q | ⟨r, r1, r2, r3⟩)
      · exact vm_bs_in V q4 q
      · exact (al r r1 r2).1 f r3
    · rintro ⟨i, i1, i2⟩
      exact vm_rd_cg vm_ba_cg _ _ _ i2 (q5 i i1)
  refine ⟨⟨E, q4.2.2.2, fun i hi => ?_⟩, fun t0 r r1 r2 r3 => (al r r1 r2).2 t0 r3, q4.1, fun e f q => ?_⟩
  · by_cases qi : i < c0
    · obtain ⟨s', t', a1, a2, a3, a4, a5⟩ := V.2.2 i qi
      have e := (q4.2.1 i qi).1
      exact ⟨s', t', by rw [e 0 (by omega)]; exact a1, by rw [(q4.2.1 i qi).2]; exact a2, vm_rd_cg vm_ba_cg _ _ _ (vr_eq_symm e) a3, fun t'' ht q => a4 t'' ht (vm_rd_cg vm_ba_cg _ _ _ e q), fun es => by have := a5 es; omega⟩
    · obtain ⟨b1, p, b2, b3⟩ := q4.2.2.1 i (by omega) hi
      refine ⟨s, t + 1, by rw [b2, show ((p : Nat) : Int).toNat = p by omega]; omega, by rw [b1]; omega, q5 i hi, fun t'' ht q => ?_, fun _ => Nat.le_refl _⟩
      obtain ⟨j, j1, j2⟩ := (V.1 _).mp (vm_rd_mono (show t'' ≤ t by omega) q)
      have := q1.2.2 j i (by omega) hi (vr_eq_trans (q4.2.1 j j1).1 j2)
      omega
  · obtain ⟨i, i1, i2⟩ := (E f).mp q
    have qi : i < c0 := by omega
    exact (V.1 f).mpr ⟨i, qi, vr_eq_trans (vr_eq_symm (q4.2.1 i qi).1) i2⟩
def vn_Ir (S : vu_S) (st : Nat → Nat) (s t c0 : Nat) (r0 : Nat → Nat → Int) (m0 : Nat → Int) (N r : Nat) (g : ve_H) : Prop := (vx_J g 625 68 = 0 ∧ ∃ cnt rr cm, vn_Qr S st s t c0 r0 m0 g cnt rr cm ∧ ∀ r', r' < r → st (S.2.2.2.1 r').1.toNat = s → (∀ f, vm_nr (S.2.2.2.1 r') (t = 0) (vm_mt S st s t) f → ∃ i, i < cnt ∧ vr_eq 5 (rr i) f) ∧ (t = 0 → (S.2.2.2.1 r').2.2.1.1 ≠ -1 → ∃ l, vm_lg (S.2.2.2.1 r') (vm_mt S st s 0) l)) ∨ (vx_J g 625 68 ≠ 0 ∧ vm_big S st N)
/-- between rounds -/
def vn_It (S : vu_S) (st : Nat → Nat) (s t N : Nat) (v : Int) (g : ve_H) : Prop := (vx_J g 625 68 = 0 ∧ ∃ cnt rr cm, vn_T g S.1 cnt rr cm ∧ cnt ≤ 200 ∧ vm_lv S st s t cnt rr cm ∧ (1 ≤ t → vm_lg0 S st s) ∧ ((v ≠ 0 ∧ t ≤ cnt) ∨ (v = 0 ∧ 1 ≤ t ∧ ∀ f, vm_mt S st s t f → vm_mt S st s (t - 1) f))) ∨ (vx_J g 625 68 ≠ 0 ∧ vm_big S st N)
theorem vc_90_153 {P : ve_H → Prop} {v1 v2 : Int} (PG : vm_pg S st) (w3 : vu_w3 S) (hsN : s < N) (ht : t ≤ 300) (tc : t ≤ c0) (V : vm_lv S st s t c0 r0 m0) (C : vn_pc h sd S st) (e65 : vx_J h 625 65 = c0) (e67 : vx_J h 625 67 = (t : Int) + 1) (hv1 : v1 = s) (hN : N ≤ 17) (LG : 1 ≤ t → vm_lg0 S st s)
    (K : ∀ g v2 v3, (v2 = 0 ∨ v2 = 1) → vx_T 625 672 g → vx_fr vn_Wr h g → vn_It S st s (t + 1) N v2 g → vx_W (d + 10 + 1) 90 116 [some (.ref 625), some (.int (vx_i v1)), some (.int (vx_i v2)), v3] [] g (vx_RV P)) :
    ∀ (m r : Nat) (g : ve_H) (z : Int), m = S.2.2.1 - r → r ≤ S.2.2.1 → z = ((30 * sd + r : Nat) : Int) → vx_T 625 672 g → vx_fr vn_Wr h g → vn_Ir S st s t c0 r0 m0 N r g → vx_W (d + 10 + 1) 90 153 [some (.ref 625), some (.int (vx_i v1)), some (.int (vx_i v2)), some (.int (vx_i z))] [] g (vx_RV P) := by
  have n30 := PG.2.2.2.2
  have sd2 := C.1.1.1
  -- the end of a round
  have fin : ∀ (g : ve_H) (v3 : Option Value), vx_T 625 672 g → vx_fr vn_Wr h g → vn_Ir S st s t c0 r0 m0 N S.2.2.1 g → (((vx_J g 625 32) ≤ (vx_J g 625 65) → vx_W (d + 10 + 1) 90 116 [some (.ref 625), some (.int (vx_i v1)), some (.int (vx_i 0)), v3] [] g (vx_RV P)) ∧ ((vx_J g 625 65) < (vx_J g 625 32) → vx_W (d + 10 + 1) 90 116 [some (.ref 625), some (.int (vx_i v1)), some (.int (vx_i 1)), v3] [] g (vx_RV P))) := by
    intro g v3 hT F I
    rcases I with ⟨j0, cnt, rr, cm, Q, al⟩ | I
    · obtain ⟨a1, a2, a3, a4⟩ := vn_round V Q al
      have g65 : vx_J g 625 65 = c0 := (vx_fr_J F (by omega)).trans e65
      have LG' : 1 ≤ t + 1 → vm_lg0 S st s := fun _ => by
        by_cases t0 : t = 0
        · exact a2 t0
        · exact LG (by omega)
      rw [Q.1.1, g65]
      refine ⟨fun q => K g 0 v3 (Or.inl rfl) hT F (Or.inl ⟨j0, cnt, rr, cm, Q.1, Q.2.1, a1, LG', Or.inr ⟨rfl, by omega, ?_⟩⟩), fun q => K g 1 v3 (Or.inr rfl) hT F (Or.inl ⟨j0, cnt, rr, cm, Q.1, Q.2.1, a1, LG', Or.inl ⟨by decide, by omega⟩⟩)⟩
      rw [show t + 1 - 1 = t by omega]
      exact a4 (by omega)
    · exact ⟨fun _ => K g 0 v3 (Or.inl rfl) hT F (Or.inr I), fun _ => K g 1 v3 (Or.inr rfl) hT F (Or.inr I)⟩
  intro m
  induction m with
  | zero =>
    intro r g z hm hr hz hT F I
    have Cg := vn_pc_fr C F (fun a k q => by omega)
    have er : r = S.2.2.1 := by omega
    subst er
    have f := fin g (some (.int (vx_i z))) hT F I
    have g35 := Cg.2.1
    refine vg_90_153 hT ?_
    rw [Cg.1.2, show ((sd : Nat) : Int).toNat = sd by omega, g35]
    exact ⟨by omega, by omega, by omega, fun _ => f, fun q => absurd q (by omega)⟩
  | succ m ih =>
    intro r g z hm hr hz hT F I
    have Cg := vn_pc_fr C F (fun a k q => by omega)
    have hr' : r < S.2.2.1 := by omega
    obtain ⟨R, eR⟩ : ∃ R, S.2.2.2.1 r = R := ⟨_, rfl⟩
    obtain ⟨p, mm, p1, p2, p3, H0⟩ := vn_pc_hd Cg hr' eR
    have p16 : p < 16 := by have := PG.2.2.2.1; omega
    have g34 := Cg.2.2.2.1 p p16
    have rR := Cg.2.2.1 r hr'
    rw [eR] at rR
    have g39 := rR.2.2.1
    have W := PG.1.1 r hr'
    rw [eR] at W
    have o69 : R.2.2.1.1 ≠ -1 → 6 ≤ R.2.2.1.1 := fun hO => by
      obtain ⟨p', m', a1, a2, a3, a4, a5, a6, ov⟩ := W.2.2.2.2.2.2.1
      rcases ov with t | ⟨t, k, k1, k2, _⟩
      · exact absurd t hO
      · exact t.1
    have g35 := Cg.2.1
    refine vg_90_153 hT ?_
    rw [Cg.1.2, show ((sd : Nat) : Int).toNat = sd by omega, g35, show z.toNat = 30 * sd + r by omega, H0.1, p1, show (16 * (sd : Int) + (p : Nat)).toNat = 16 * sd + p by omega, g34]
    refine ⟨by omega, by omega, by omega, fun q => absurd q (by omega), fun _ => ⟨fun jq => fin g _ hT F ?_, fun jq => ⟨by omega, by omega, by omega, fun q => ?_, fun q => ?_⟩⟩⟩
    · rcases I with ⟨j0, _⟩ | I
      · exact absurd j0 jq
      · exact Or.inr I
    · have hst : st R.1.toNat = s := by rw [p1, show ((p : Nat) : Int).toNat = p by omega]; omega
      rintro h12 e12 hT12
      have F12 : vx_fr (fun a k => a = 625 ∧ k = 66) g h12 := vx_fr_sJ vx_fr_refl e12 ⟨rfl, rfl⟩
      have FF : vx_fr vn_Wr h h12 := vx_fr_trans F (vx_fr_mono F12 (fun a k q => Or.inr q))
      have C12 := vn_pc_fr Cg F12 (fun a k q => by omega)
      have h39 : vx_J h12 639 (30 * sd + r) = if R.2.2.1.1 = -1 then 0 else R.2.2.1.1 - 4 := (vx_fr_J F12 (by omega)).trans g39
      have h65 : vx_J h12 625 65 = c0 := (vx_fr_J FF (by omega)).trans e65
      have h67 : vx_J h12 625 67 = (t : Int) + 1 := (vx_fr_J FF (by omega)).trans e67
      have h66 : vx_J h12 625 66 = 0 := by rw [e12, vx_J_eq (by decide)]
      have h68 : vx_J h12 625 68 = 0 := (vx_fr_J F12 (by omega)).trans jq
      obtain ⟨cnt, rr, cm, Q, al⟩ : ∃ cnt rr cm, vn_Qr S st s t c0 r0 m0 g cnt rr cm ∧ ∀ r', r' < r → st (S.2.2.2.1 r').1.toNat = s → (∀ f, vm_nr (S.2.2.2.1 r') (t = 0) (vm_mt S st s t) f → ∃ i, i < cnt ∧ vr_eq 5 (rr i) f) ∧ (t = 0 → (S.2.2.2.1 r').2.2.1.1 ≠ -1 → ∃ l, vm_lg (S.2.2.2.1 r') (vm_mt S st s 0) l) := by
        rcases I with ⟨_, I⟩ | ⟨j1, _⟩
        · exact I
        · exact absurd jq j1
      have Q12 := vn_Qr_fr Q F12 (fun a k q => by omega)
      -- on to the next rule
      have next : ∀ h17, vx_T 625 672 h17 → vx_fr vn_Wr h12 h17 → vn_rp S st s t c0 r0 m0 N R cnt rr h17 → vx_W (d + 10 + 1) 90 153 [some (.ref 625), some (.int (vx_i v1)), some (.int (vx_i v2)), some (.int (vx_i (z + 1)))] [] h17 (vx_RV P) := by
        intro h17 hT17 F17 q17
        refine ih (r + 1) h17 (z + 1) (by omega) (by omega) (by omega) hT17 (vx_fr_trans FF F17) ?_
        rcases q17 with ⟨j6, cnt1, rr1, cm1, Q1, ke, nw, lw⟩ | q6
        · refine Or.inl ⟨j6, cnt1, rr1, cm1, Q1, fun r' h1' h2' => ?_⟩
          by_cases e : r' = r
          · rw [e, eR]; exact ⟨nw, lw⟩
          · have a := al r' (by omega) h2'
            refine ⟨fun f hf => ?_, a.2⟩
            obtain ⟨i, i1, i2⟩ := a.1 f hf
            obtain ⟨j, j1, j2⟩ := ke i i1
            exact ⟨j, j1, vr_eq_trans j2 i2⟩
        · exact Or.inr q6
      rw [h39, h67]
      by_cases hO : R.2.2.1.1 = -1
      · rw [if_pos hO]
        refine ⟨by omega, fun _ => ⟨by omega, fun q => absurd rfl q, fun _ => vx_CV_mono (vn_ruleA (d := d + 1) (N := N) PG w3 hr' eR hst hO hsN V C12 hT12 h65 h66 h67 Q12 h68 hz) ?_⟩, fun q => absurd q (by decide)⟩
        rintro h17 ⟨F17, q17⟩ hT17
        exact next h17 hT17 F17 q17
      · have := o69 hO
        rw [if_neg hO]
        refine ⟨by omega, fun q => absurd q (by omega), fun _ => ⟨fun q => ⟨by omega, next h12 hT12 vx_fr_refl (Or.inl ⟨h68, cnt, rr, cm, Q12, fun i hi => ⟨i, hi, fun _ _ => rfl⟩, fun f hf => ?_, fun t0 => absurd t0 (by omega)⟩)⟩, fun q => ?_⟩⟩
        · rcases hf with ⟨q1, _⟩ | ⟨_, q1, _⟩
          · exact absurd q1 hO
          · omega
        · have t0 : t = 0 := by omega
          subst t0
          refine vx_CV_mono (vc_88 (d := d) (N := N) PG w3 hr' eR hst hO hsN V C12 hT12 h65 (h67.trans q) Q12 h68 hz) ?_
          rintro h17 ⟨F17, q17⟩ hT17
          exact next h17 hT17 F17 q17
    · refine ih (r + 1) g (z + 1) (by omega) (by omega) (by omega) hT F ?_
      rcases I with ⟨j0, cnt, rr, cm, Q, al⟩ | I
      · refine Or.inl ⟨j0, cnt, rr, cm, Q, fun r' h1' h2' => ?_⟩
        by_cases e : r' = r
        · exfalso
          rw [e, eR, p1, show ((p : Nat) : Int).toNat = p by omega] at h2'
          omega
        · exact al r' (by omega) h2'
      · exact Or.inr I
end
