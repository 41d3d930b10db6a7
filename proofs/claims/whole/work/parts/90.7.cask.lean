/-! ask: the class -/
def vi_Wr (a k : Nat) : Prop := vu_SF a k ∨ (a = 2 ∧ k = 4) ∨ (a = 1 ∧ (k = 11 ∨ k = 12))
def vi_Wq (ab a k : Nat) : Prop := vi_Wr a k ∨ vm_Wk ab a k
def vi_Wp (ab a k : Nat) : Prop := vi_Wq ab a k ∨ (a = 1 ∧ (k = 5 ∨ k = 6 ∨ k = 7 ∨ k = 10))
theorem vi_Wr_in {a k : Nat} (q : vi_Wr a k) : (a = 1 ∧ (k = 11 ∨ k = 12)) ∨ (2 ≤ a ∧ a ≤ 20) := by
  unfold vi_Wr at q
  omega
theorem vi_Wk_in {ab a k : Nat} (h : ab = 617 ∨ ab = 621) (q : vm_Wk ab a k) : (a = 21 ∧ 6 ≤ k) ∨ (31 ≤ a ∧ a ≤ 33) ∨ (a = ab ∧ k = 4) ∨ (ab < a ∧ a ≤ ab + 3) := q
theorem vi_nk {ab a k : Nat} (h : ab = 617 ∨ ab = 621) (ha : a < 21) : ¬ vm_Wk ab a k := fun q => by
  have := vi_Wk_in h q
  omega
/-- how the class's ask ends -/
def vi_qP (D : vm_S) (Q : vy_F ⊕ (vy_F × Nat × vy_L)) (aa ab : Nat) (h : ve_H) (r : Int) (h1 : ve_H) : Prop := ∃ f, Q = .inr f ∧ vx_J h 1 8 = 1 ∧ vx_J h 1 10 < 500 ∧ vx_fr (vi_Wp ab) h h1 ∧ vx_J h1 1 11 = f.1.1 ∧ vx_J h1 1 12 = f.1.2 ∧ vx_J h1 2 4 = 0 ∧ ve_R h1 1 5 = some ab ∧ ve_R h1 1 6 = some aa ∧ vx_J h1 1 7 = f.2.1 ∧ vx_J h1 1 10 = vx_J h 1 10 + 1 ∧ ∃ A ac ar o, r = (ac : Nat) ∧ vr_P ab 8 ac ar h1 ∧ ac ≤ 200 ∧ vm_aS D (-1, A, vu_O0, f.2.1, f.2.2) ac ar ∧ vr_so 8 ar o ac ∧ ∀ j, j < ac → vx_J h1 (ab + 2) j = o j
def vi_qX (D : vm_S) (Q : vy_F ⊕ (vy_F × Nat × vy_L)) (ab : Nat) (h : ve_H) (kx : Nat) (h1 : ve_H) : Prop := vx_fq (vi_Wq ab) h h1 ∧ vx_J h1 2 4 = 0 ∧ vx_J h1 ab 0 = (8 : Nat) ∧ ((kx = 10 ∧ ∃ F, Q = .inl F ∧ F.1 ≠ 0 ∧ vx_J h1 1 11 = F.1 ∧ vx_J h1 1 12 = F.2) ∨ (kx = 11 ∧ ∃ f A, Q = .inr f ∧ vx_J h1 1 11 = f.1.1 ∧ vx_J h1 1 12 = f.1.2 ∧ (vx_J h 1 8 ≠ 1 ∨ vx_J h 1 10 = 500 ∨ vm_aB D (-1, A, vu_O0, f.2.1, f.2.2))))
section
variable {d pi aa ab nn cnt : Nat} {h : ve_H} {Pd : vy_V} {st : Nat → Nat} {c : Nat → Int} {rr : Nat → Nat → Int} {cm : Nat → Int}
theorem vc_6 (hT : vx_T 1 625 h) (X : vt_tx h nn c) (p1 : ve_R h 1 3 = some pi) (C : vy_cp h pi Pd) (c2 : vs_cs h pi st) (r5 : ve_R h 1 5 = some aa) (r6 : ve_R h 1 6 = some ab) (oa : aa = 617 ∨ aa = 621) (ob : ab = 617 ∨ ab = 621) (w : vx_J h ab 0 = (8 : Nat)) (M : vx_J h 1 8 = 1 → (vm_M h cnt rr cm ∨ Pd.1 = 0) ∧ ∀ i, i < cnt → vm_vr (rr i)) (s5 : 0 ≤ vx_J h 1 10 ∧ vx_J h 1 10 ≤ 500) (rk : ∀ h1, ve_n h1 = ve_n h → ve_u h1 = ve_u h → ve_rk h1 6 = true) : vx_CX (d + 12) 6 [.ref 1] h (vi_qP (fun f => ∃ i, i < cnt ∧ vr_eq 5 (rr i) f) (vu_qc (vt_toks c nn 600 0) Pd) aa ab h) (vi_qX (fun f => ∃ i, i < cnt ∧ vr_eq 5 (rr i) f) (vu_qc (vt_toks c nn 600 0) Pd) ab h) := by
  obtain ⟨ok, ok2, ok3⟩ := vt_toks_ok X.2.1 (fun j hj => (X.2.2 j hj).2)
  obtain ⟨Q, eQ⟩ : ∃ Q, vu_qc (vt_toks c nn 600 0) Pd = Q := ⟨_, rfl⟩
  have opi := C.1
  have ppo := (vx_po opi).2.2.2.2.2.2
  refine vg_6 (d := d + 11) hT ⟨pi, p1, opi, vx_CV_mono (vc_147 (d := d + 5) hT X opi C) ?_⟩
  rintro h2 ⟨F2, E2⟩ hT2
  rw [eQ] at E2 ⊢
  refine vx_CV_mono (vc_12 (d := d + 10) hT2) ?_
  rintro h3 ⟨F3, k24, k11, k12⟩ hT3
  have G : vx_fr vi_Wr h h3 := vx_fr_trans (vx_fr_mono F2 (fun a k q => Or.inl q)) (vx_fr_mono F3 (fun a k q => Or.inr q))
  have nr : ∀ a k, (a = 1 ∧ k ≠ 11 ∧ k ≠ 12) ∨ 20 < a → ¬ vi_Wr a k := fun a k ha q => by have := vi_Wr_in q; omega
  have j8 : vx_J h3 1 8 = vx_J h 1 8 := vx_fr_J G (nr 1 8 (by omega))
  have j10 : vx_J h3 1 10 = vx_J h 1 10 := vx_fr_J G (nr 1 10 (by omega))
  have w3 : vx_J h3 ab 0 = (8 : Nat) := (vx_fr_J G (nr ab 0 (by omega))).trans w
  have Gq : vx_fr (vi_Wq ab) h h3 := vx_fr_mono G (fun a k q => Or.inl q)
  have X3 : ∀ (kd kx : Nat) (g g1 : ve_H), g1 = ve_new g kd 6 → vx_fr (vi_Wq ab) h g → vx_J g 2 4 = 0 → vx_J g ab 0 = (8 : Nat) → ((kx = 10 ∧ ∃ F, Q = .inl F ∧ F.1 ≠ 0 ∧ vx_J g 1 11 = F.1 ∧ vx_J g 1 12 = F.2) ∨ (kx = 11 ∧ ∃ f A, Q = .inr f ∧ vx_J g 1 11 = f.1.1 ∧ vx_J g 1 12 = f.1.2 ∧ (vx_J h 1 8 ≠ 1 ∨ vx_J h 1 10 = 500 ∨ vm_aB (fun f => ∃ i, i < cnt ∧ vr_eq 5 (rr i) f) (-1, A, vu_O0, f.2.1, f.2.2)))) → vi_qX (fun f => ∃ i, i < cnt ∧ vr_eq 5 (rr i) f) Q ab h kx g1 := by
    intro kd kx g g1 e Fg a b c'
    subst e
    exact ⟨vx_fq_r Fg (vx_fq_new rfl), a, b, c'⟩
  cases Q with
  | inl F =>
    obtain ⟨F0, cf⟩ := E2
    have e11 : vx_J h3 1 11 = F.1 := k11.trans cf.1
    refine ⟨fun q => absurd (e11.symm.trans q) F0, fun _ => ⟨rk h3 G.1.1 G.1.2, fun h23 e23 _ => X3 10 10 h3 h23 e23 Gq k24 w3 (Or.inl ⟨rfl, F, rfl, F0, e11, k12.trans cf.2⟩)⟩⟩
  | inr f =>
    obtain ⟨cf, A, cr⟩ := E2
    have Qw := vu_qc_w ok ok2 ok3 eQ
    have e11 : vx_J h3 1 11 = f.1.1 := k11.trans cf.1
    have e12 : vx_J h3 1 12 = f.1.2 := k12.trans cf.2
    refine ⟨fun _ => ⟨fun q8 => ⟨rk h3 G.1.1 G.1.2, fun h6 e6 _ => X3 11 11 h3 h6 e6 Gq k24 w3 (Or.inr ⟨rfl, f, A, rfl, e11, e12, Or.inl (by rw [← j8]; exact q8)⟩)⟩, fun q8 => ⟨fun q10 => ?_, fun q10 => ⟨rk h3 G.1.1 G.1.2, fun h21 e21 _ => X3 11 11 h3 h21 e21 Gq k24 w3 (Or.inr ⟨rfl, f, A, rfl, e11, e12, Or.inr (Or.inl (by omega))⟩)⟩⟩⟩, fun q => absurd (e11.trans Qw.1) q⟩
    obtain ⟨m1, m2⟩ := M (j8.symm.trans q8)
    have M3 : vm_N h3 f.2.2 cnt rr cm := by
      rcases m1 with t | t
      · exact Or.inr (vm_M_fr t G (fun a k q => by have := vi_Wr_in q; omega))
      · refine Or.inl (fun e he => ?_)
        have w := Qw.2.2.2.2.2 e he
        refine ⟨fun k => ?_, fun k => ?_⟩
        · obtain ⟨p, _, p1, p2, _⟩ := w.2.1 (Or.inl k)
          omega
        · obtain ⟨p, _, p1, p2, _⟩ := w.2.1 (Or.inr k)
          omega
    have cr3 : vu_cr h3 8 (-1, A, vu_O0, f.2.1, f.2.2) := vu_cr_fr vu_o8 cr F3 (fun a k _ _ => by omega)
    have ta := vm_ta ob
    have R5 : ve_R h3 1 5 = some aa := (vx_fr_R G (nr 1 5 (by omega))).trans r5
    have R6 : ve_R h3 1 6 = some ab := (vx_fr_R G (nr 1 6 (by omega))).trans r6
    refine ⟨pi, (vx_fr_R G (nr 1 3 (by omega))).trans p1, opi, ab, R6, ta.1.1, vx_CI_mono (vd_108 (d := d) C.2.2.1 ta ob Qw.2 opi (fun p hp => (vx_fr_J G (nr _ p (by omega))).trans (c2 p hp)) cr3 hT3 M3 m2 w3) ?_⟩
    rintro r11 h11 _ ⟨F11, q11⟩ _
    have nk : ∀ a k, a < 21 → ¬ vm_Wk ab a k := fun a k ha => vi_nk ob ha
    have k11' : vx_J h11 1 11 = f.1.1 := (vx_fr_J F11 (nk 1 11 (by decide))).trans e11
    have k12' : vx_J h11 1 12 = f.1.2 := (vx_fr_J F11 (nk 1 12 (by decide))).trans e12
    have k24' : vx_J h11 2 4 = 0 := (vx_fr_J F11 (nk 2 4 (by decide))).trans k24
    have G11 : vx_fr (vi_Wq ab) h h11 := vx_fr_trans Gq (vx_fr_mono F11 (fun a k q => Or.inr q))
    refine ⟨fun rn => ?_, fun r0 => ?_⟩
    · obtain ⟨ac, ar, o, x1, x2, x3, x4, x5⟩ : ∃ ac ar o, vr_P ab 8 ac ar h11 ∧ ac ≤ 200 ∧ vm_aS (fun f => ∃ i, i < cnt ∧ vr_eq 5 (rr i) f) (-1, A, vu_O0, f.2.1, f.2.2) ac ar ∧ vr_so 8 ar o ac ∧ ∀ j, j < ac → vx_J h11 (ab + 2) j = o j := by
        rcases q11 with ⟨_, t⟩ | ⟨t, _⟩
        · exact t
        · exact absurd t rn
      clear q11
      refine ⟨aa, (vx_fr_R F11 (nk 1 5 (by decide))).trans R5, (vm_ta oa).1.1, ab, (vx_fr_R F11 (nk 1 6 (by decide))).trans R6, ta.1.1, ?_⟩
      rintro h15 e15 _ h16 e16 _ h17 e17 _ h18 e18 _
      have F16 : vx_fr (fun a k => a = 1 ∧ (k = 5 ∨ k = 6)) h11 h16 := vx_fr_sR (vx_fr_sR vx_fr_refl e15 (by omega)) e16 (by omega)
      have a5 : vx_J h16 8 5 = f.2.1 := by rw [vx_fr_J F16 (by omega), vx_fr_J F11 (nk 8 5 (by decide))]; exact cr3.2.2.2.1
      have n8 := Qw.2.2.1
      rw [a5] at e17
      have a10 : vx_J h17 1 10 = vx_J h 1 10 := by rw [e17, vx_J_ne (by omega), vx_fr_J F16 (by omega), vx_fr_J F11 (nk 1 10 (by decide))]; exact j10
      rw [a10] at e18
      have F18 : vx_fr (fun a k => a = 1 ∧ (k = 7 ∨ k = 10)) h16 h18 := vx_fr_sJ (vx_fr_sJ vx_fr_refl e17 (by omega)) e18 (by omega)
      have FF : vx_fr (fun a k => a = 1 ∧ (k = 5 ∨ k = 6 ∨ k = 7 ∨ k = 10)) h11 h18 := vx_fr_trans (vx_fr_mono F16 (fun a k q => by omega)) (vx_fr_mono F18 (fun a k q => by omega))
      have P18 : vr_P ab 8 ac ar h18 := vr_P_fr x1 ta.1 FF (fun b k q t => by
        have h1 := ta.2.2
        omega)
      refine ⟨f, rfl, j8.symm.trans q8, by omega, vx_fr_trans (vx_fr_mono G11 (fun a k q => Or.inl q)) (vx_fr_mono FF (fun a k q => Or.inr q)), (vx_fr_J FF (by omega)).trans k11', (vx_fr_J FF (by omega)).trans k12', (vx_fr_J FF (by omega)).trans k24', ?_, ?_, ?_, ?_, A, ac, ar, o, P18.2.1, P18, x2, x3, x4, fun j hj => (vx_fr_J FF (by omega)).trans (x5 j hj)⟩
      · rw [vx_fr_R F18 (by omega), e16, ve_R_sR, if_neg (by omega), e15, ve_R_sR, if_pos ⟨rfl, rfl⟩]
      · rw [vx_fr_R F18 (by omega), e16, ve_R_sR, if_pos ⟨rfl, rfl⟩]
      · rw [e18, vx_J_ne (by omega), e17, vx_J_eq (by omega)]
      · rw [e18, vx_J_eq (by omega)]
    · obtain ⟨aB, w11⟩ : vm_aB (fun f => ∃ i, i < cnt ∧ vr_eq 5 (rr i) f) (-1, A, vu_O0, f.2.1, f.2.2) ∧ vx_J h11 ab 0 = (8 : Nat) := by
        rcases q11 with ⟨t, _⟩ | ⟨_, t⟩
        · exact absurd r0 (by rw [t]; decide)
        · exact t
      exact ⟨rk h11 G11.1.1 G11.1.2, fun h19 e19 _ => X3 11 11 h11 h19 e19 G11 k24' w11 (Or.inr ⟨rfl, f, A, rfl, k11', k12', Or.inr (Or.inr aB)⟩)⟩
end
