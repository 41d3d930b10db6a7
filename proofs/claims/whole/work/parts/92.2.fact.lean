/-! fact: the pair -/
section
variable {cnt i : Nat} {rr : Nat → Nat → Int} {f row : Nat → Int}
theorem vr_rm_set (dj : ∀ i j, i < cnt → j < cnt → vr_eq 5 (rr i) (rr j) → i = j) (hi : i < cnt) : (∃ j, j < cnt - 1 ∧ vr_eq 5 (vr_rm rr cnt i j) f) ↔ (∃ j, j < cnt ∧ vr_eq 5 (rr j) f) ∧ ¬ vr_eq 5 (rr i) f := by
  constructor
  · rintro ⟨j, j1, j2⟩
    have j2 : vr_eq 5 (if j = i then rr (cnt - 1) else rr j) f := j2
    by_cases q : j = i
    · rw [if_pos q] at j2
      exact ⟨⟨cnt - 1, by omega, j2⟩, fun t => by have := dj _ _ (by omega) hi (vr_eq_trans j2 (vr_eq_symm t)); omega⟩
    · rw [if_neg q] at j2
      exact ⟨⟨j, by omega, j2⟩, fun t => by have := dj _ _ (by omega) hi (vr_eq_trans j2 (vr_eq_symm t)); omega⟩
  · rintro ⟨⟨k, k1, k2⟩, no⟩
    have ki : k ≠ i := fun e => no (by rw [← e]; exact k2)
    by_cases q : k = cnt - 1
    · refine ⟨i, by omega, ?_⟩
      show vr_eq 5 (if i = i then rr (cnt - 1) else rr i) f
      rw [if_pos rfl, ← q]; exact k2
    · refine ⟨k, by omega, ?_⟩
      show vr_eq 5 (if k = i then rr (cnt - 1) else rr k) f
      rw [if_neg ki]; exact k2
theorem vu_sh_set (dj : ∀ i j, i < cnt → j < cnt → vr_eq 5 (rr i) (rr j) → i = j) (hi : i < cnt) : (∃ j, j < cnt - 1 ∧ vr_eq 5 (vu_sh rr i j) f) ↔ (∃ j, j < cnt ∧ vr_eq 5 (rr j) f) ∧ ¬ vr_eq 5 (rr i) f := by
  constructor
  · rintro ⟨j, j1, j2⟩
    have j2 : vr_eq 5 (if j < i then rr j else rr (j + 1)) f := j2
    by_cases q : j < i
    · rw [if_pos q] at j2
      exact ⟨⟨j, by omega, j2⟩, fun t => by have := dj _ _ (by omega) hi (vr_eq_trans j2 (vr_eq_symm t)); omega⟩
    · rw [if_neg q] at j2
      exact ⟨⟨j + 1, by omega, j2⟩, fun t => by have := dj _ _ (by omega) hi (vr_eq_trans j2 (vr_eq_symm t)); omega⟩
  · rintro ⟨⟨k, k1, k2⟩, no⟩
    have ki : k ≠ i := fun e => no (by rw [← e]; exact k2)
    by_cases q : k < i
    · refine ⟨k, by omega, ?_⟩
      show vr_eq 5 (if k < i then rr k else rr (k + 1)) f
      rw [if_pos q]; exact k2
    · refine ⟨k - 1, by omega, ?_⟩
      show vr_eq 5 (if k - 1 < i then rr (k - 1) else rr (k - 1 + 1)) f
      rw [if_neg (by omega), show k - 1 + 1 = k by omega]; exact k2
theorem vr_ad_set : (∃ j, j < cnt + 1 ∧ vr_eq 5 (vr_ad rr cnt row j) f) ↔ (∃ j, j < cnt ∧ vr_eq 5 (rr j) f) ∨ vr_eq 5 row f := by
  constructor
  · rintro ⟨j, j1, j2⟩
    by_cases q : j = cnt
    · rw [q, vr_ad_eq] at j2; exact Or.inr j2
    · rw [vr_ad_lt (show j < cnt by omega)] at j2; exact Or.inl ⟨j, by omega, j2⟩
  · rintro (⟨j, j1, j2⟩ | q)
    · exact ⟨j, by omega, by rw [vr_ad_lt j1]; exact j2⟩
    · exact ⟨cnt, by omega, by rw [vr_ad_eq]; exact q⟩
end
/-- a program with other facts -/
def vi_set (S : vu_S) (cnt : Nat) (rr : Nat → Nat → Int) : vu_S := (S.1, S.2.1, S.2.2.1, S.2.2.2.1, cnt, rr)
def vi_Wf (pi a k : Nat) : Prop := vi_Wr a k ∨ vr_W (pi + 6) a k ∨ (a = 1 ∧ k = 8)
theorem vi_Wf_in {pi a k : Nat} (opi : vx_o 1 625 5 pi) (q : vi_Wf pi a k) : (a = 1 ∧ (k = 8 ∨ k = 11 ∨ k = 12)) ∨ (2 ≤ a ∧ a ≤ 20) ∨ (a = pi + 6 ∧ k = 4) ∨ (pi + 7 ≤ a ∧ a ≤ pi + 9) := by
  have fK := (vu_fK opi).2
  rcases q with q | q | q
  · have t := vi_Wr_in q
    clear q
    omega
  · omega
  · omega
/-- what comes of a fact, once it is read -/
def vi_fP (how : Int) (pi cnt : Nat) (rr : Nat → Nat → Int) (R : vy_F ⊕ (vy_F × Int × (Nat → Int))) (h : ve_H) (r : Int) (h1 : ve_H) : Prop := vx_J h1 2 4 = 0 ∧ ∃ f, R = .inr f ∧ vx_J h1 1 11 = f.1.1 ∧ vx_J h1 1 12 = f.1.2 ∧ ((vx_fr vi_Wr h h1 ∧ r = 0 ∧ (((∃ j, j < cnt ∧ vr_eq 5 (rr j) (vu_row f.2.1 f.2.2)) ∧ how = 1) ∨ ((∀ j, j < cnt → ¬ vr_eq 5 (rr j) (vu_row f.2.1 f.2.2)) ∧ how = 0))) ∨ (vx_fr (vi_Wf pi) h h1 ∧ r = 1 ∧ vx_J h1 1 8 = 0 ∧ ((∃ j, j < cnt ∧ vr_eq 5 (rr j) (vu_row f.2.1 f.2.2) ∧ how = 0 ∧ vr_P (pi + 6) 5 (cnt - 1) (vr_rm rr cnt j) h1) ∨ ((∀ j, j < cnt → ¬ vr_eq 5 (rr j) (vu_row f.2.1 f.2.2)) ∧ how = 1 ∧ cnt < 200 ∧ vr_P (pi + 6) 5 (cnt + 1) (vr_ad rr cnt (vu_row f.2.1 f.2.2)) h1))))
def vi_fX (how : Int) (cnt : Nat) (rr : Nat → Nat → Int) (R : vy_F ⊕ (vy_F × Int × (Nat → Int))) (h : ve_H) (kx : Nat) (h1 : ve_H) : Prop := vx_fq vi_Wr h h1 ∧ vx_J h1 2 4 = 0 ∧ ((kx = 10 ∧ ∃ F, R = .inl F ∧ vx_J h1 1 11 = F.1 ∧ vx_J h1 1 12 = F.2) ∨ (kx = 11 ∧ ∃ f, R = .inr f ∧ vx_J h1 1 11 = f.1.1 ∧ vx_J h1 1 12 = f.1.2 ∧ how = 1 ∧ cnt = 200 ∧ ∀ j, j < cnt → ¬ vr_eq 5 (rr j) (vu_row f.2.1 f.2.2)))
section
variable {d L n pi cnt : Nat} {c : Nat → Int} {xs : Nat → Int32} {h : ve_H} {Pd : vy_V} {rr : Nat → Nat → Int} {x : Int}
theorem vc_3 (hT : vx_T 1 625 h) (X : vt_tx h n c) (r3 : ve_R h 1 3 = some pi) (C : vy_cp h pi Pd) (P : vr_P (pi + 6) 5 cnt rr h) (c200 : cnt ≤ 200) (hx : x = 0 ∨ x = 1) (rk : ∀ h1, ve_n h1 = ve_n h → ve_u h1 = ve_u h → ve_rk h1 6 = true) : vx_CX (d + 7) 3 [.ref 1, .int (vx_i x)] h (vi_fP x pi cnt rr (vu_fc (vt_toks c n 600 0) Pd) h) (vi_fX x cnt rr (vu_fc (vt_toks c n 600 0) Pd) h) := by
  have oi := C.1
  have ppo := vx_po oi
  have p39 := ppo.2.2.2.2.2.2
  have fK := vu_fK oi
  obtain ⟨ok, ok2, ok3⟩ := vt_toks_ok X.2.1 (fun j hj => (X.2.2 j hj).2)
  have o18 : vx_o 1 625 21 18 := by decide +kernel
  have z18 : vx_za 18 = 5 := by decide +kernel
  obtain ⟨R, eR⟩ : ∃ R, vu_fc (vt_toks c n 600 0) Pd = R := ⟨_, rfl⟩
  -- the reading
  have PRE : ∀ Q : ve_H → Prop, (∀ h5, vx_T 1 625 h5 → vx_fr vi_Wr h h5 → vx_J h5 2 4 = 0 → ((∃ F, R = .inl F ∧ F.1 ≠ 0 ∧ vx_J h5 1 11 = F.1 ∧ vx_J h5 1 12 = F.2) ∨ (∃ f, R = .inr f ∧ f.1.1 = 0 ∧ vx_J h5 1 11 = f.1.1 ∧ vx_J h5 1 12 = f.1.2 ∧ ∀ k, k < 5 → vx_K h5 18 k = vu_row f.2.1 f.2.2 k)) → Q h5) → vx_CV (d + 6) 146 [.ref 7, .ref pi] h (fun h4 => vx_T 1 625 h4 → vx_CV (d + 6) 12 [.ref 1] h4 (fun h5 => vx_T 1 625 h5 → Q h5)) := by
    intro Q hQ
    refine vx_CV_mono (vc_146 (d := d) hT X oi C) ?_
    rintro h4 ⟨F4, E4⟩ hT4
    rw [eR] at E4
    refine vx_CV_mono (vc_12 (d := d + 5) hT4) ?_
    rintro h5 ⟨F5, k24, k11, k12⟩ hT5
    have G : vx_fr vi_Wr h h5 := vx_fr_trans (vx_fr_mono F4 (fun a k q => Or.inl q)) (vx_fr_mono F5 (fun a k q => Or.inr q))
    refine hQ h5 hT5 G k24 ?_
    cases R with
    | inl F => exact Or.inl ⟨F, rfl, E4.1, k11.trans E4.2.1, k12.trans E4.2.2⟩
    | inr f => exact Or.inr ⟨f, rfl, (vu_fc_w ok ok2 ok3 eR).1, k11.trans E4.1.1, k12.trans E4.1.2, fun k hk => (vx_fr_K F5 (by omega)).trans (E4.2 k hk)⟩
  have nr : ∀ a k, (a = 1 ∧ k ≠ 11 ∧ k ≠ 12) ∨ 20 < a → ¬ vi_Wr a k := fun a k ha q => by
    have t := vi_Wr_in q
    clear q
    omega
  have R3 : ∀ {g}, vx_fr vi_Wr h g → ve_R g 1 3 = some pi := fun G => (vx_fr_R G (nr 1 3 (by omega))).trans r3
  have P5 : ∀ {g}, vx_fr vi_Wr h g → vr_P (pi + 6) 5 cnt rr g := fun G => vr_P_fr P fK.1 G (fun b k q t => nr b k (by have := fK.2; omega) t)
  rw [eR]
  have bad : ∀ {h5 : ve_H}, vx_fr vi_Wr h h5 → vx_J h5 2 4 = 0 → ((∃ F, R = .inl F ∧ F.1 ≠ 0 ∧ vx_J h5 1 11 = F.1 ∧ vx_J h5 1 12 = F.2) ∨ (∃ f, R = .inr f ∧ f.1.1 = 0 ∧ vx_J h5 1 11 = f.1.1 ∧ vx_J h5 1 12 = f.1.2 ∧ ∀ k, k < 5 → vx_K h5 18 k = vu_row f.2.1 f.2.2 k)) → vx_J h5 1 11 ≠ 0 → ve_rk h5 6 = true ∧ ∀ h6, h6 = ve_new h5 10 6 → vx_T 1 625 h6 → vi_fX x cnt rr R h 10 h6 := by
    intro h5 G k24 e q
    refine ⟨rk h5 G.1.1 G.1.2, fun h6 e6 _ => ?_⟩
    rcases e with ⟨F, a1, a2, a3, a4⟩ | ⟨f, _, a2, a3, _⟩
    · refine ⟨vx_fq_r G (vx_fq_new e6), by rw [e6]; exact k24, Or.inl ⟨rfl, F, a1, by rw [e6]; exact a3, by rw [e6]; exact a4⟩⟩
    · exact absurd (a3.trans a2) q
  have good : ∀ {h5 : ve_H}, ((∃ F, R = .inl F ∧ F.1 ≠ 0 ∧ vx_J h5 1 11 = F.1 ∧ vx_J h5 1 12 = F.2) ∨ (∃ f, R = .inr f ∧ f.1.1 = 0 ∧ vx_J h5 1 11 = f.1.1 ∧ vx_J h5 1 12 = f.1.2 ∧ ∀ k, k < 5 → vx_K h5 18 k = vu_row f.2.1 f.2.2 k)) → vx_J h5 1 11 = 0 → ∃ f, R = .inr f ∧ vx_J h5 1 11 = f.1.1 ∧ vx_J h5 1 12 = f.1.2 ∧ ∀ k, k < 5 → vx_K h5 18 k = vu_row f.2.1 f.2.2 k := by
    intro h5 e q
    rcases e with ⟨F, a1, a2, a3, a4⟩ | ⟨f, a1, _, a3, a4, a5⟩
    · exact absurd (a3.symm.trans q) a2
    · exact ⟨f, a1, a3, a4, a5⟩
  have chg : ∀ {h5 g g1 : ve_H}, vx_fr vi_Wr h h5 → vx_fr (vr_W (pi + 6)) h5 g → g1 = vx_sJ g 1 8 0 → vx_fr (vi_Wf pi) h g1 ∧ vx_fr (fun a k => vr_W (pi + 6) a k ∨ (a = 1 ∧ k = 8)) h5 g1 := fun G F e => ⟨vx_fr_sJ (vx_fr_trans (vx_fr_mono G (fun a k q => Or.inl q)) (vx_fr_mono F (fun a k q => Or.inr (Or.inl q)))) e (Or.inr (Or.inr ⟨rfl, rfl⟩)), vx_fr_sJ (vx_fr_mono F (fun a k q => Or.inl q)) e (Or.inr ⟨rfl, rfl⟩)⟩
  refine vg_3 (d := d + 6) hT ⟨by omega, fun x0 => ⟨pi, r3, oi, PRE _ ?_⟩, fun x0 => ⟨fun x1 => ⟨pi, r3, oi, PRE _ ?_⟩, fun x1 => absurd hx (by omega)⟩⟩
  · intro h5 hT5 G k24 e
    refine ⟨fun q => ⟨pi, R3 G, oi, ?_⟩, bad G k24 e⟩
    obtain ⟨f, a1, a2, a3, a4⟩ := good e q
    rw [ppo.2.2.2.2.2.1]
    refine vx_CI_mono (vc_173 (d := d + 5) o18 hT5 fK.1 (P5 G) (by rw [z18]; exact Nat.le_refl _) a4) ?_
    rintro r8 h8 _ ⟨rfl, c8⟩ hT8
    refine ⟨fun _ => ⟨fun q8 => ⟨k24, f, a1, a2, a3, Or.inl ⟨G, rfl, Or.inr ⟨?_, x0⟩⟩⟩, fun q8 => ⟨pi, R3 G, oi, ?_⟩⟩, fun t => absurd t (by omega)⟩
    · rcases c8 with ⟨i, _, t, _⟩ | ⟨_, t⟩
      · omega
      · exact t
    · obtain ⟨i, i1, i2, i3⟩ : ∃ i : Nat, i < cnt ∧ r8 = i ∧ vr_eq 5 (rr i) (vu_row f.2.1 f.2.2) := by
        rcases c8 with t | ⟨t, _⟩
        · exact t
        · exact absurd t q8
      rw [ppo.2.2.2.2.2.1]
      refine vx_CV_mono (vc_175 (d := d + 5) hT8 fK.1 (P5 G) i2 i1) ?_
      rintro h12 ⟨F12, P12, _⟩ _ h13 e13 _
      have FF := chg G F12 e13
      have F13 : vx_fr (fun a k => a = 1 ∧ k = 8) h12 h13 := vx_fr_sJ vx_fr_refl e13 ⟨rfl, rfl⟩
      have n5 : ∀ a k, (a = 2 ∧ k = 4) ∨ (a = 1 ∧ (k = 11 ∨ k = 12)) → ¬ (vr_W (pi + 6) a k ∨ (a = 1 ∧ k = 8)) := fun a k ha q => by have := fK.2; omega
      exact ⟨(vx_fr_J FF.2 (n5 _ _ (by omega))).trans k24, f, a1, (vx_fr_J FF.2 (n5 _ _ (by omega))).trans a2, (vx_fr_J FF.2 (n5 _ _ (by omega))).trans a3, Or.inr ⟨FF.1, rfl, by rw [e13, vx_J_eq (by decide)], Or.inl ⟨i, i1, i3, x0, vr_P_fr P12 fK.1 F13 (fun b k q t => by have := fK.2; omega)⟩⟩⟩
  · intro h5 hT5 G k24 e
    refine ⟨fun q => ⟨pi, R3 G, oi, ?_⟩, bad G k24 e⟩
    obtain ⟨f, a1, a2, a3, a4⟩ := good e q
    rw [ppo.2.2.2.2.2.1]
    refine vx_CI_mono (vc_173 (d := d + 5) o18 hT5 fK.1 (P5 G) (by rw [z18]; exact Nat.le_refl _) a4) ?_
    rintro r8 h8 _ ⟨rfl, c8⟩ hT8
    refine ⟨fun q8 => ⟨pi, R3 G, oi, ?_⟩, fun q8 => ⟨k24, f, a1, a2, a3, Or.inl ⟨G, rfl, Or.inl ⟨?_, x1⟩⟩⟩⟩
    · have no : ∀ j, j < cnt → ¬ vr_eq 5 (rr j) (vu_row f.2.1 f.2.2) := by
        rcases c8 with ⟨i, _, t, _⟩ | ⟨_, t⟩
        · omega
        · exact t
      rw [ppo.2.2.2.2.2.1, (P5 G).2.1]
      refine ⟨fun q9 => vx_CI_mono (vc_174 (d := d + 5) o18 hT8 fK.1 (P5 G) (by rw [z18]; exact Nat.le_refl _) a4) ?_, fun q9 => ⟨rk h8 G.1.1 G.1.2, fun h19 e19 _ => ⟨vx_fq_r G (vx_fq_new e19), by rw [e19]; exact k24, Or.inr ⟨rfl, f, a1, by rw [e19]; exact a2, by rw [e19]; exact a3, x1, by omega, no⟩⟩⟩⟩
      rintro r17 h17 _ ⟨F17, c17⟩ _ h18 e18 _
      have FF := chg G F17 e18
      have F18 : vx_fr (fun a k => a = 1 ∧ k = 8) h17 h18 := vx_fr_sJ vx_fr_refl e18 ⟨rfl, rfl⟩
      have n5 : ∀ a k, (a = 2 ∧ k = 4) ∨ (a = 1 ∧ (k = 11 ∨ k = 12)) → ¬ (vr_W (pi + 6) a k ∨ (a = 1 ∧ k = 8)) := fun a k ha q => by have := fK.2; omega
      have P17 : vr_P (pi + 6) 5 (cnt + 1) (vr_ad rr cnt (vu_row f.2.1 f.2.2)) h17 := by
        rcases c17 with ⟨_, _, t⟩ | ⟨_, _, _, t, _⟩
        · rcases t with ⟨i, i1, i2⟩ | t
          · exact absurd i2 (no i i1)
          · omega
        · exact t
      exact ⟨(vx_fr_J FF.2 (n5 _ _ (by omega))).trans k24, f, a1, (vx_fr_J FF.2 (n5 _ _ (by omega))).trans a2, (vx_fr_J FF.2 (n5 _ _ (by omega))).trans a3, Or.inr ⟨FF.1, rfl, by rw [e18, vx_J_eq (by decide)], Or.inr ⟨no, x1, by omega, vr_P_fr P17 fK.1 F18 (fun b k q t => by have := fK.2; omega)⟩⟩⟩
    · rcases c8 with ⟨i, i1, _, i3⟩ | ⟨t, _⟩
      · exact ⟨i, i1, i3⟩
      · exact absurd t q8
/-- fact with neither 0 nor 1: the class -/
theorem vc_3n (hT : vx_T 1 625 h) (hx : vx_rI x) (hn : x ≠ 0 ∧ x ≠ 1) (rk : ∀ h1, ve_n h1 = ve_n h → ve_u h1 = ve_u h → ve_rk h1 6 = true) : vx_CX (d + 1) 3 [.ref 1, .int (vx_i x)] h (fun _ _ => False) (fun kx h1 => kx = 10 ∧ vx_fq vi_Wr h h1 ∧ vx_J h1 2 4 = 0 ∧ vx_J h1 1 11 = 0 ∧ vx_J h1 1 12 = 0) := by
  refine vg_3 hT ⟨hx, fun t => absurd t hn.1, fun _ => ⟨fun t => absurd t hn.2, fun _ => vg_193 hT ?_⟩⟩
  rintro h1 e1 _ _ h2 e2 _ h3 e3 _
  have F : vx_fr vi_Wr h h3 := vx_fr_sJ (vx_fr_sJ (vx_fr_sJ vx_fr_refl e1 (Or.inr (Or.inl ⟨rfl, rfl⟩))) e2 (Or.inr (Or.inr ⟨rfl, Or.inl rfl⟩))) e3 (Or.inr (Or.inr ⟨rfl, Or.inr rfl⟩))
  refine ⟨rk h3 F.1.1 F.1.2, fun h4 e4 _ => ⟨rfl, vx_fq_r F (vx_fq_new e4), ?_, ?_, ?_⟩⟩
  · rw [e4]
    show vx_J h3 2 4 = 0
    rw [e3, vx_J_ne (by omega), e2, vx_J_ne (by omega), e1, vx_J_eq (by decide)]
  · rw [e4]
    show vx_J h3 1 11 = 0
    rw [e3, vx_J_ne (by omega), e2, vx_J_eq (by decide)]
  · rw [e4]
    show vx_J h3 1 12 = 0
    rw [e3, vx_J_eq (by decide)]
end
