/-! A question has no head: the class, without looking at one -/
section
variable {o : Nat} {h : ve_H} {R : vu_R} {L : vy_L}
theorem vm_plan_q (C : vu_cr h o R) (W : vz_wf R.2.2.1.1 R.2.2.2.1 R.2.2.2.2) (al : ∀ v, v < R.2.2.2.1 → vz_bd R.2.2.2.2 v) (hq : R.1 = -1) : ∃ σ b sd, vz_st h o R.2.2.2.2 R.2.2.2.2.1 σ b ∧ vx_J h o 15 = sd ∧ (∀ v, v < R.2.2.2.1 → vb (b R.2.2.2.2.1) v = true) ∧ (R.2.2.1.1 ≠ -1 → sd = 7) ∧ (R.2.2.1.1 = -1 → ∀ e : Nat, sd ≤ e → e ≤ R.2.2.2.2.1 → ∀ i, vu_go R i → vb (b e) i = true) := by
  obtain ⟨_, _, _, _, _, G, r, _, g2, ⟨n, σ, b, n1, n2, n3, n4, n5, n6⟩, _⟩ := C
  have e := vz_full W n2 n1 n4 al
  subst e
  have bd : ∀ v, v < R.2.2.2.1 → vb (b R.2.2.2.2.1) v = true := fun v hv => (vz_st_bd W n2 (Nat.le_refl _) n4 v).mpr (al v hv)
  refine ⟨σ, b, vx_J h o 15, n2, rfl, bd, n5, fun q e he1 he2 i hi => ?_⟩
  obtain ⟨s, s1, s2, s3⟩ := n6 q
  by_cases q2 : s < R.2.2.2.2.1
  · have t := (s3 q2).2 i ((g2 i).mpr hi)
    obtain ⟨e', t1, t2⟩ := ((n2.2.1 s (by omega)).2 i).mp t
    exact ((n2.2.1 e he2).2 i).mpr ⟨e', by omega, t2⟩
  · rw [show e = R.2.2.2.2.1 by omega]
    apply bd
    unfold vu_go at hi
    by_cases q3 : R.1 = -1
    · rw [if_pos q3] at hi; exact hi
    · exact absurd hq q3
end
section
variable {d o pi a : Nat} {R : vu_R} {σ : Nat → Nat} {b : Nat → Int} {st : Nat → Nat} {tn fr sd : Int} {c0 : Nat} {r0 : Nat → Nat → Int} {m0 : Nat → Int} {h h1 : ve_H} {l : List (Nat → Int)} {u v : Nat → Int}
theorem vm_gl_nq {w u v : Nat → Int} (hq : R.1 = -1) (h : ∀ i, i < R.2.2.2.1 → u i = v i) : vr_eq (vm_gw R) (vm_gl R u) (vm_gl R v) := by
  intro k hk
  unfold vm_gl
  rw [if_pos hq, if_pos hq]
  show (if k < R.2.2.2.1 then u k else 0) = if k < R.2.2.2.1 then v k else 0
  by_cases q2 : k < R.2.2.2.1
  · rw [if_pos q2, if_pos q2]; exact h k q2
  · rw [if_neg q2, if_neg q2]
/-- the model, where the question asks for a tuple -/
def vm_N (h : ve_H) (L : vy_L) (c0 : Nat) (r0 : Nat → Nat → Int) (m0 : Nat → Int) : Prop := (∀ e, e < L.1 → L.2.1 e ≠ 14 ∧ L.2.1 e ≠ 15) ∨ vm_M h c0 r0 m0
theorem vm_N_fr {L : vy_L} {S : Nat → Nat → Prop} (M : vm_N h L c0 r0 m0) (f : vx_fr S h h1) (hs : ∀ a k, S a k → a < 23 ∨ 30 < a) : vm_N h1 L c0 r0 m0 := by
  rcases M with t | t
  · exact Or.inl t
  · exact Or.inr (vm_M_fr t f hs)
def vm_XQ (h0 : ve_H) (a c0 : Nat) (r0 : Nat → Nat → Int) (m0 : Nat → Int) (R : vu_R) (l : List (Nat → Int)) (h : ve_H) : Prop := vx_fr (vm_Wk a) h0 h ∧ vm_N h R.2.2.2.2 c0 r0 m0 ∧ ∃ ac ar, vr_P a 8 ac ar h ∧ vm_id h (a + 2) ac ∧ ac ≤ 200 ∧ vm_se 8 R (fun _ => False) l ac ar
def vm_YQ (h0 : ve_H) (a c0 : Nat) (r0 : Nat → Nat → Int) (m0 : Nat → Int) (R : vu_R) (l : List (Nat → Int)) (h : ve_H) : Prop := vx_fr (vm_Wk a) h0 h ∧ vm_N h R.2.2.2.2 c0 r0 m0 ∧ ∃ ar, vr_P a 8 201 ar h ∧ vm_id h (a + 2) 201 ∧ ∀ i, i < 201 → ∃ u, u ∈ l ∧ vr_eq 8 (ar i) (vm_gl R u)
theorem vm_HC_q {h0 : ve_H} (ta : vm_tg a 8) (ta2 : a = 617 ∨ a = 621) (hp : R.1 = -1) (hv0 : ∀ i, i < c0 → vm_vr (r0 i)) (hσ : ∀ e, e < R.2.2.2.2.1 → σ e < R.2.2.2.2.1) (hG : ∀ e : Nat, sd ≤ e → e ≤ R.2.2.2.2.1 → ∀ i, vu_go R i → vb (b e) i = true) :
    vm_HY o pi a R σ b st (-1) tn fr sd (vm_PA c0 r0 m0 st (-1) tn fr R.2.2.2.2 σ) (vm_NA c0 r0) (vm_XQ h0 a c0 r0 m0 R) (vm_YQ h0 a c0 r0 m0 R) (vm_ZA 8 R (fun _ => False)) := by
  have w8 : vm_gw R = 8 := if_pos hp
  have t2 := ta.2.2
  have fa : ∀ {S : Nat → Nat → Prop} {g g1 : ve_H} {n : Nat} {ar : Nat → Nat → Int}, vx_fr S g g1 → (∀ b k, S b k → b = 31 ∨ b = 32 ∨ b = 33 ∨ b = 21) → vr_P a 8 n ar g ∧ vm_id g (a + 2) n → vr_P a 8 n ar g1 ∧ vm_id g1 (a + 2) n := fun F hs q => ⟨vm_P_fr ta q.1 F hs, fun i hi => (vx_fr_J F (fun t => absurd (hs _ _ t) (by omega))).trans (q.2 i hi)⟩
  refine ⟨?_, ?_, ?_, ?_, ?_, ?_, ?_⟩
  · rintro l h h1 ⟨G, M, ac, ar, P, I, q⟩ F
    have t := fa F (fun b k q => by omega) ⟨P, I⟩
    exact ⟨vx_fr_trans G (vx_fr_mono F (fun a k q => by omega)), vm_N_fr M F (fun a k q => by omega), ac, ar, t.1, t.2, q⟩
  · rintro l h h1 ⟨G, M, ar, P, I, q⟩ F
    have t := fa F (fun b k q => by omega) ⟨P, I⟩
    exact ⟨vx_fr_trans G (vx_fr_mono F (fun a k q => by omega)), vm_N_fr M F (fun a k q => by omega), ar, t.1, t.2, q⟩
  · rintro l l' u (q | ⟨v, q1, q2⟩)
    · exact Or.inl q
    · exact Or.inr ⟨v, List.mem_append.mpr (Or.inl q1), q2⟩
  · rintro l h ⟨_, M, _⟩
    rcases M with M | M
    · exact Or.inl (fun e he => M (σ e) (hσ e he))
    · exact vm_bs_db M (vm_bs_st hv0) (fun j _ _ => by omega) hσ
  · rintro d l h hT C ⟨G, M, ac, ar, P, I, hc, q3⟩ j0 hv
    refine vg_112 hT (vx_CV_mono (vc_111 (d := d + 1) hT C.1) ?_)
    rintro h1 ⟨F1, hg⟩ hT1
    rw [w8] at hg
    have C1 := vm_cx_fr C F1 (fun a k q => vm_W2_W q)
    have P1 := fa F1 (fun b k q => by omega) ⟨P, I⟩
    refine ⟨o, C1.1.1.1, C1.1.1.2.1, fun q => absurd (C1.1.2.1.trans hp) q, fun _ => ⟨a, C1.2.2.2.2.2.2.2.2.2, ta.1.1, vx_CI_mono (vc_174 (d := d + 1) vm_o21.1 hT1 ta.1 P1.1 (by rw [vm_o21.2.2.1]; exact Nat.le_refl _) hg) ?_⟩⟩
    rintro r8 h8 _ Q8 hT8
    have F8 := Q8.1
    have R8 : ve_R h8 21 8 = some a := (vx_fr_R F8 (by omega)).trans C1.2.2.2.2.2.2.2.2.2
    have M8 : vm_N h8 R.2.2.2.2 c0 r0 m0 := vm_N_fr (vm_N_fr M F1 (fun a k q => by omega)) F8 (fun b k q => by omega)
    have fin : ∀ (v : Int) (g : ve_H) (n : Nat) (br : Nat → Nat → Int), (v = 0 ∨ v = 1) → (v = 0 → n ≤ 200) → (v = 1 → n = 201) → g = vx_sJ h8 21 12 v → vr_P a 8 n br h8 → vm_id h8 (a + 2) n → vm_se 8 R (fun _ => False) (l ++ [vm_hv h]) n br → vx_fr vm_Wt h g ∧ vm_kp h g ∧ ((vx_J g 21 12 = 0 ∧ vm_XQ h0 a c0 r0 m0 R (l ++ [vm_hv h]) g) ∨ (vx_J g 21 12 ≠ 0 ∧ vm_YQ h0 a c0 r0 m0 R (l ++ [vm_hv h]) g)) := by
      intro v g n br hv n0 n1 eg Pn In Se
      have Fg : vx_fr (fun a k => a = 21 ∧ k = 12) h8 g := vx_fr_sJ vx_fr_refl eg ⟨rfl, rfl⟩
      have FF : vx_fr (fun b k => b = 32 ∨ vr_W a b k ∨ (b = 21 ∧ k = 12)) h g := vx_fr_trans (vx_fr_mono F1 (fun a k q => Or.inl q)) (vx_fr_trans (vx_fr_mono F8 (fun b k q => Or.inr (Or.inl q))) (vx_fr_mono Fg (fun a k q => Or.inr (Or.inr q))))
      have jg : vx_J g 21 12 = v := by rw [eg, vx_J_eq (by rcases hv with e | e <;> rw [e] <;> decide)]
      have tg := fa Fg (fun b k q => by omega) ⟨Pn, In⟩
      refine ⟨vx_fr_mono FF (fun b k q => by
        rcases q with q | q | q
        · exact ⟨by omega, by omega⟩
        · exact ⟨vm_tg_W ta q, by omega⟩
        · exact ⟨by omega, by omega⟩), vm_kp_fr FF (fun b k q => by omega), ?_⟩
      have Gg : vx_fr (vm_Wk a) h0 g := vx_fr_trans G (vx_fr_mono FF (fun b k q => by omega))
      have Mg : vm_N g R.2.2.2.2 c0 r0 m0 := vm_N_fr M8 Fg (fun b k q => by omega)
      rcases hv with e | e
      · exact Or.inl ⟨by rw [jg]; exact e, Gg, Mg, n, br, tg.1, tg.2, n0 e, Se⟩
      · have := n1 e
        subst this
        refine Or.inr ⟨by rw [jg, e]; decide, Gg, Mg, br, tg.1, tg.2, fun i hi => ?_⟩
        rcases Se.1 i hi with t | t
        · exact absurd t (fun t => t)
        · exact t
    have mem : vm_hv h ∈ l ++ [vm_hv h] := List.mem_append.mpr (Or.inr (List.mem_singleton.mpr rfl))
    refine ⟨a, R8, ta.1.1, ?_⟩
    rcases Q8.2 with ⟨e1, e2, e3⟩ | ⟨e1, e2, e3, e4, e5, e6⟩
    · have e4 : ∃ i, i < ac ∧ vr_eq 8 (ar i) (vm_gl R (vm_hv h)) := by
        rcases e3 with q | q
        · exact q
        · omega
      have P8 := P1
      rw [← e2] at P8
      have c8 : vx_J h8 a 4 = ac := P8.1.2.1
      refine ⟨fun _ => ?_, fun q => absurd q (by omega)⟩
      rintro h11 e11 _
      refine fin 0 h11 ac ar (Or.inl rfl) (fun _ => hc) (fun t => absurd t (by decide)) e11 P8.1 P8.2 ⟨fun i hi => ?_, fun f hf => ?_⟩
      · rcases q3.1 i hi with t | ⟨u, t1, t2⟩
        · exact Or.inl t
        · exact Or.inr ⟨u, List.mem_append.mpr (Or.inl t1), t2⟩
      · rcases hf with t | ⟨u, t1, t2⟩
        · exact absurd t (fun t => t)
        · rcases List.mem_append.mp t1 with t | t
          · exact q3.2 f (Or.inr ⟨u, t, t2⟩)
          · rw [List.mem_singleton.mp t] at t2
            obtain ⟨i, i1, i2⟩ := e4
            exact ⟨i, i1, vr_eq_trans i2 (vr_eq_symm t2)⟩
    · have c8 : vx_J h8 a 4 = (ac : Int) + 1 := by have := e4.2.1; omega
      have I8 : vm_id h8 (a + 2) (ac + 1) := fun i hi => by
        rw [t2.2.2] at e5 e6
        by_cases q : i = ac
        · rw [q]; exact e5
        · rw [e6 i q]; exact P1.2 i (by omega)
      have Se : vm_se 8 R (fun _ => False) (l ++ [vm_hv h]) (ac + 1) (vr_ad ar ac (vm_gl R (vm_hv h))) := by
        refine ⟨fun i hi => ?_, fun f hf => ?_⟩
        · by_cases q : i = ac
          · rw [q, vr_ad_eq]; exact Or.inr ⟨vm_hv h, mem, fun _ _ => rfl⟩
          · rw [vr_ad_lt (show i < ac by omega)]
            rcases q3.1 i (by omega) with t | ⟨u, t1, t2⟩
            · exact Or.inl t
            · exact Or.inr ⟨u, List.mem_append.mpr (Or.inl t1), t2⟩
        · rcases hf with t | ⟨u, t1, t2⟩
          · exact absurd t (fun t => t)
          · rcases List.mem_append.mp t1 with t | t
            · obtain ⟨i, i1, i2⟩ := q3.2 f (Or.inr ⟨u, t, t2⟩)
              exact ⟨i, by omega, by rw [vr_ad_lt i1]; exact i2⟩
            · rw [List.mem_singleton.mp t] at t2
              exact ⟨ac, by omega, by rw [vr_ad_eq]; exact vr_eq_symm t2⟩
      refine ⟨fun q => ?_, fun q => ?_⟩
      · rintro h11 e11 _
        exact fin 0 h11 (ac + 1) _ (Or.inl rfl) (fun _ => by omega) (fun t => absurd t (by decide)) e11 e4 I8 Se
      · rintro h12 e12 _
        exact fin 1 h12 (ac + 1) _ (Or.inr rfl) (fun t => absurd t (by decide)) (fun _ => by omega) e12 e4 I8 Se
  · rintro d e l h hT C ⟨G, M, ac, ar, P, I, hc, q3⟩ j0 hs he
    refine vx_CI_mono (vc_110 (d := d) (a := a) (cnt := ac) (rr := ar) hT C.1 C.2.2.2.2.2.2.2.2.2 (by rw [w8]; exact ta) (by rw [w8]; exact P)) ?_
    rintro r h1 _ ⟨F, q⟩
    have P1 := fa F (fun b k q => by omega) ⟨P, I⟩
    refine ⟨vx_fr_mono F (fun a k q => by omega), vm_kp_fr F (fun a k q => by omega), ⟨vx_fr_trans G (vx_fr_mono F (fun a k q => by omega)), vm_N_fr M F (fun a k q => by omega), ac, ar, P1.1, P1.2, hc, q3⟩, (vx_fr_J F (by omega)).trans j0, fun r0 u hu => ?_⟩
    have ge := vm_gl_ag (R := R) hu (hG e hs he)
    rw [w8] at ge q
    rcases q with ⟨_, i, i1, i2⟩ | ⟨t, _⟩
    · rcases q3.1 i i1 with s | ⟨w, s1, s2⟩
      · exact absurd s (fun t => t)
      · exact Or.inr ⟨w, s1, vr_eq_trans (vr_eq_symm ge) (vr_eq_trans (vr_eq_symm i2) s2)⟩
    · exact absurd t r0
  · intro l v u hvu
    have ge := vm_gl_nq (R := R) (w := fun _ => 0) hp hvu
    rw [w8] at ge
    exact Or.inr ⟨v, List.mem_append.mpr (Or.inr (List.mem_singleton.mpr rfl)), vr_eq_symm ge⟩
end
section
variable {d pi a cnt n : Nat} {Pd : vy_V} {st : Nat → Nat} {rr : Nat → Nat → Int} {cm : Nat → Int} {A : Nat → Int} {L : vy_L} {h h1 : ve_H}
theorem vd_108 (P16 : Pd.1 ≤ 16) (ta : vm_tg a 8) (ta2 : a = 617 ∨ a = 621) (W : vu_wQ Pd n L) (opi : vx_o 1 625 5 pi) (c2 : vs_cs h pi st) (cr : vu_cr h 8 (-1, A, vu_O0, n, L)) (hT : vx_T 1 625 h) (M : vm_N h L cnt rr cm) (hv : ∀ i, i < cnt → vm_vr (rr i)) (hw : vx_J h a 0 = (8 : Nat)) : vx_CI (d + 11) 108 [.ref 21, .ref pi, .ref 8, .ref a] h (vm_aE a cnt rr (-1, A, vu_O0, n, L) h) := by
  obtain ⟨R, eR⟩ : ∃ R : vu_R, R = (-1, A, vu_O0, n, L) := ⟨_, rfl⟩
  have eO : R.2.2.1.1 = -1 := by rw [eR]; rfl
  have e1 : R.1 = -1 := by rw [eR]
  have en : R.2.2.2.1 = n := by rw [eR]
  have eL : R.2.2.2.2 = L := by rw [eR]
  have eA : R.2.1 = A := by rw [eR]
  rw [← eR] at cr ⊢
  obtain ⟨w1, w2, w3, w4, w5⟩ := W
  have Wf : vz_wf R.2.2.1.1 R.2.2.2.1 R.2.2.2.2 := by rw [eO, en, eL]; exact w1
  have sl : vm_sl R.2.2.1.1 R.2.2.2.1 R.2.2.2.2 := by
    refine ⟨Wf, fun j hj => ?_⟩
    rw [eL] at hj ⊢
    have t := w5 j hj
    refine ⟨t.1, t.2.2, fun k => ?_⟩
    obtain ⟨p, _, p1, p2, _⟩ := t.2.1 k
    exact ⟨p, p1, by omega⟩
  obtain ⟨σ, b, sd, z1, z2, z3, _, z5⟩ := vm_plan_q cr Wf (by rw [en, eL]; exact w4) e1
  have t2 := ta.2.2
  refine vg_108 opi vu_o8 ta.1.1 hT (fun g1 x1 _ g2 x2 _ g3 x3 _ g4 x4 _ g5 x5 _ g6 x6 hT6 => ?_)
  have F6 : vx_fr (fun b k => b = 21 ∧ 6 ≤ k) h g6 := vx_fr_sJ (vx_fr_sJ (vx_fr_sJ (vx_fr_sR (vx_fr_sR (vx_fr_sR vx_fr_refl x1 (by omega)) x2 (by omega)) x3 (by omega)) x4 (by omega)) x5 (by omega)) x6 (by omega)
  have r6 : ve_R g6 21 6 = some pi := by
    rw [x6]; show ve_R g5 21 6 = _
    rw [x5]; show ve_R g4 21 6 = _
    rw [x4]; show ve_R g3 21 6 = _
    rw [x3, ve_R_sR, if_neg (by omega), x2, ve_R_sR, if_neg (by omega), x1, ve_R_sR, if_pos ⟨rfl, rfl⟩]
  have r7 : ve_R g6 21 7 = some 8 := by
    rw [x6]; show ve_R g5 21 7 = _
    rw [x5]; show ve_R g4 21 7 = _
    rw [x4]; show ve_R g3 21 7 = _
    rw [x3, ve_R_sR, if_neg (by omega), x2, ve_R_sR, if_pos ⟨rfl, rfl⟩]
  have r8 : ve_R g6 21 8 = some a := by
    rw [x6]; show ve_R g5 21 8 = _
    rw [x5]; show ve_R g4 21 8 = _
    rw [x4]; show ve_R g3 21 8 = _
    rw [x3, ve_R_sR, if_pos ⟨rfl, rfl⟩]
  have j9 : vx_J g6 21 9 = -1 := by rw [x6, vx_J_ne (by omega), x5, vx_J_ne (by omega), x4, vx_J_eq (by decide)]
  have j11 : vx_J g6 21 11 = -1 := by rw [x6, vx_J_ne (by omega), x5, vx_J_eq (by decide)]
  have j12 : vx_J g6 21 12 = 0 := by rw [x6, vx_J_eq (by decide)]
  refine vx_CV_mono (vc_172 (d := d + 9) (rr := rr) hT6 ta.1 ((vx_fr_J F6 (by omega)).trans hw)) ?_
  rintro g7 ⟨F7, P7⟩ hT7
  have W7 : vx_fr (vm_Wk a) h g7 := vx_fr_trans (vx_fr_mono F6 (fun b k q => Or.inl q)) (vx_fr_mono F7 (fun b k q => by omega))
  have C7 := vm_cx_q (a := a) (st := st) cr (by rw [en]; exact w2) z1 z2 opi c2 ta2 W7 ((vx_fr_R F7 (by omega)).trans r6) ((vx_fr_R F7 (by omega)).trans r7) ((vx_fr_R F7 (by omega)).trans r8) ((vx_fr_J F7 (by omega)).trans j9) ((vx_fr_J F7 (by omega)).trans j11)
  have M7 : vm_N g7 R.2.2.2.2 cnt rr cm := by rw [eL]; exact vm_N_fr M W7 (fun b k q => by omega)
  have hs := vm_surj C7.2.1
  have l6 := C7.1.1.2.2.2.1
  have H := vm_HC_q (h0 := g7) (o := 8) (pi := pi) (st := st) (tn := vx_J g7 21 10) (fr := -1) (c0 := cnt) (r0 := rr) (m0 := cm) ta ta2 e1 hv hs.1 (z5 eO)
  have X0 : vm_XQ g7 a cnt rr cm R [] g7 := ⟨vx_fr_refl, M7, 0, rr, P7, fun i hi => absurd hi (by omega), by omega, fun i hi => absurd hi (by omega), fun f hf => by
    rcases hf with t | ⟨u, t, _⟩
    · exact absurd t (fun t => t)
    · exact absurd t List.not_mem_nil⟩
  have b0 : ∀ i, ¬ vb (b 0) i = true := fun i hi => by
    obtain ⟨e', t, _⟩ := ((C7.2.1.2.1 0 (Nat.zero_le _)).2 i).mp hi
    omega
  have go := vm_walk (d := d + (6 - R.2.2.2.2.1)) H sl (fun p hp => by omega) z3 R.2.2.2.2.1 0 g7 [] 0 (by omega) rfl hT7 C7 (Or.inl ⟨(vx_fr_J F7 (by omega)).trans j12, X0⟩) (fun i hi => absurd hi (b0 i))
  rw [show d + (6 - R.2.2.2.2.1) + R.2.2.2.2.1 + 3 + 1 = d + 10 by omega] at go
  refine vx_CV_mono go ?_
  rintro g8 ⟨_, _, _, q8⟩ hT8
  have sat : ∀ u, vm_so R.2.2.2.2 σ (vm_PA cnt rr cm st (-1) (vx_J g7 21 10) (-1) R.2.2.2.2 σ) (vm_NA cnt rr) 0 u ↔ vm_sat (fun f => ∃ i, i < cnt ∧ vr_eq 5 (rr i) f) R.2.2.2.2 u := fun u => ⟨fun q => vm_so_sat (fun f => Iff.rfl) hs.2 q, fun q => vm_sat_so (fun f => Iff.rfl) hs.1 (fun j hj k => by omega) q⟩
  -- in order, and the end
  have srt : ∀ {ac : Nat} {ar : Nat → Nat → Int}, vx_fr (vm_Wk a) g7 g8 → vr_P a 8 ac ar g8 → vm_id g8 (a + 2) ac → (vx_J g8 21 12 = 0 → ac ≤ 200 ∧ vm_aS (fun f => ∃ i, i < cnt ∧ vr_eq 5 (rr i) f) R ac ar) → (vx_J g8 21 12 ≠ 0 → vm_aB (fun f => ∃ i, i < cnt ∧ vr_eq 5 (rr i) f) R) → vx_CV (d + 10) 178 [.ref a] g8 (fun h9 => vx_T 1 625 h9 → (((vx_J h9 21 12) ≠ 0 → vm_aE a cnt rr R h 0 h9) ∧ ((vx_J h9 21 12) = 0 → vm_aE a cnt rr R h 1 h9))) := by
    intro ac ar F8 P8 I8 q1 q2
    refine vx_CV_mono (vc_178 (d := d + 9) hT8 ta.1 P8 (fun j hj => by rw [t2.2.2]; exact I8 j hj)) ?_
    rintro h9 ⟨F9, o, so, oj⟩ _
    have j9' : vx_J h9 21 12 = vx_J g8 21 12 := vx_fr_J F9 (by omega)
    have FF : vx_fr (vm_Wk a) h h9 := vx_fr_trans W7 (vx_fr_trans F8 (vx_fr_mono F9 (fun b k q => by omega)))
    have P9 := vr_P_o ta.1 P8 F9
    rw [j9']
    exact ⟨fun q => ⟨FF, Or.inr ⟨rfl, q2 q, P9.1⟩⟩, fun q => ⟨FF, Or.inl ⟨rfl, ac, ar, o, P9, (q1 q).1, (q1 q).2, so, fun j hj => by rw [← t2.2.2]; exact oj j hj⟩⟩⟩
  have ag0 : ∀ u, vm_ag (b 0) (vm_hv g7) u := fun u i hi => absurd hi (b0 i)
  rcases q8 with ⟨_, j8, l', l1, l2, _, F8, _, ac, ar, P8, I8, hc, se⟩ | ⟨j8, l', l1, F8, _, ar, P8, I8, se⟩
  · refine srt F8 P8 I8 (fun _ => ⟨hc, fun i hi => ?_, fun u hu => ?_⟩) (fun t => absurd j8 t)
    · rcases se.1 i hi with t | ⟨u, u1, u2⟩
      · exact absurd t (fun t => t)
      · exact ⟨u, (sat u).mp (l1 u u1).2.1, (l1 u u1).2.2, u2⟩
    · rcases l2 u (ag0 u) ((sat u).mpr hu) with t | ⟨v, v1, v2⟩
      · exact absurd t (fun t => t)
      · obtain ⟨i, i1, i2⟩ := se.2 (vm_gl R u) (Or.inr ⟨v, v1, v2⟩)
        exact ⟨i, i1, i2⟩
  · refine srt F8 P8 I8 (fun t => absurd t j8) (fun _ => ⟨ar, fun i hi => ?_, P8.2.2.2.2.2⟩)
    obtain ⟨u, u1, u2⟩ := se i hi
    exact ⟨u, (sat u).mp (l1 u u1).2.1, (l1 u u1).2.2, u2⟩
end
section
variable {d : Nat} {h : ve_H}
/-- closeReading -/
theorem vc_12 (hT : vx_T 1 625 h) : vx_CV (d + 1) 12 [.ref 1] h (fun h1 => vx_fr (fun a k => (a = 2 ∧ k = 4) ∨ (a = 1 ∧ (k = 11 ∨ k = 12))) h h1 ∧ vx_J h1 2 4 = 0 ∧ vx_J h1 1 11 = vx_J h 7 11 ∧ vx_J h1 1 12 = vx_J h 7 12) := by
  refine vg_12 hT (vg_193 hT (fun h1 e1 _ _ h2 e2 _ h3 e3 _ => ?_))
  have a1 : vx_J h1 7 11 = vx_J h 7 11 := by rw [e1, vx_J_ne (by omega)]
  have a2 : vx_J h2 7 12 = vx_J h 7 12 := by rw [e2, vx_J_ne (by omega), e1, vx_J_ne (by omega)]
  rw [a1] at e2
  rw [a2] at e3
  refine ⟨vx_fr_sJ (vx_fr_sJ (vx_fr_sJ vx_fr_refl e1 (by omega)) e2 (by omega)) e3 (by omega), ?_, ?_, ?_⟩
  · rw [e3, vx_J_ne (by omega), e2, vx_J_ne (by omega), e1, vx_J_eq (by decide)]
  · rw [e3, vx_J_ne (by omega), e2, vx_J_eq (vx_rI_J _ _ _)]
  · rw [e3, vx_J_eq (vx_rI_J _ _ _)]
end
