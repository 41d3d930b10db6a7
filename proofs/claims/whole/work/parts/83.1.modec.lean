/-! A question's answers: the class -/
def vm_XC (h0 : ve_H) (a c0 : Nat) (r0 : Nat → Nat → Int) (m0 : Nat → Int) (R : vu_R) (l : List (Nat → Int)) (h : ve_H) : Prop := vx_fr (vm_Wk a) h0 h ∧ vm_M h c0 r0 m0 ∧ ∃ ac ar, vr_P a 8 ac ar h ∧ vm_id h (a + 2) ac ∧ ac ≤ 200 ∧ vm_se 8 R (fun _ => False) l ac ar
def vm_YC (h0 : ve_H) (a c0 : Nat) (r0 : Nat → Nat → Int) (m0 : Nat → Int) (R : vu_R) (l : List (Nat → Int)) (h : ve_H) : Prop := vx_fr (vm_Wk a) h0 h ∧ vm_M h c0 r0 m0 ∧ ∃ ar, vr_P a 8 201 ar h ∧ vm_id h (a + 2) 201 ∧ ∀ i, i < 201 → ∃ u, u ∈ l ∧ vr_eq 8 (ar i) (vm_gl R u)
section
variable {d o pi a : Nat} {R : vu_R} {σ : Nat → Nat} {b : Nat → Int} {st : Nat → Nat} {tn fr sd : Int} {c0 : Nat} {r0 : Nat → Nat → Int} {m0 : Nat → Int} {h h1 : ve_H} {l : List (Nat → Int)} {u v : Nat → Int}
theorem vm_bs_st (hv : ∀ i, i < c0 → vm_vr (r0 i)) {sN : Int} : vm_bs c0 r0 m0 st sN tn c0 r0 m0 := ⟨Nat.le_refl _, fun i _ => ⟨fun _ _ => rfl, rfl⟩, fun i h1 h2 => absurd h2 (by omega), hv⟩
theorem vm_HC {h0 : ve_H} (ta : vm_tg a 8) (ta2 : a = 617 ∨ a = 621) (hp : R.1 = -1) (ha : vz_aw R.2.2.2.1 false R.2.1) (hv0 : ∀ i, i < c0 → vm_vr (r0 i)) (hσ : ∀ e, e < R.2.2.2.2.1 → σ e < R.2.2.2.2.1) (hG : ∀ e : Nat, sd ≤ e → e ≤ R.2.2.2.2.1 → ∀ i, vu_go R i → vb (b e) i = true) :
    vm_HY o pi a R σ b st (-1) tn fr sd (vm_PA c0 r0 m0 st (-1) tn fr R.2.2.2.2 σ) (vm_NA c0 r0) (vm_XC h0 a c0 r0 m0 R) (vm_YC h0 a c0 r0 m0 R) (vm_ZA 8 R (fun _ => False)) := by
  have w8 : vm_gw R = 8 := if_pos hp
  have t2 := ta.2.2
  have fa : ∀ {S : Nat → Nat → Prop} {g g1 : ve_H} {n : Nat} {ar : Nat → Nat → Int}, vx_fr S g g1 → (∀ b k, S b k → b = 31 ∨ b = 32 ∨ b = 33 ∨ b = 21) → vr_P a 8 n ar g ∧ vm_id g (a + 2) n → vr_P a 8 n ar g1 ∧ vm_id g1 (a + 2) n := fun F hs q => ⟨vm_P_fr ta q.1 F hs, fun i hi => (vx_fr_J F (fun t => absurd (hs _ _ t) (by omega))).trans (q.2 i hi)⟩
  refine ⟨?_, ?_, ?_, ?_, ?_, ?_, ?_⟩
  · rintro l h h1 ⟨G, M, ac, ar, P, I, q⟩ F
    have t := fa F (fun b k q => by omega) ⟨P, I⟩
    exact ⟨vx_fr_trans G (vx_fr_mono F (fun a k q => by omega)), vm_M_fr M F (fun a k q => by omega), ac, ar, t.1, t.2, q⟩
  · rintro l h h1 ⟨G, M, ar, P, I, q⟩ F
    have t := fa F (fun b k q => by omega) ⟨P, I⟩
    exact ⟨vx_fr_trans G (vx_fr_mono F (fun a k q => by omega)), vm_M_fr M F (fun a k q => by omega), ar, t.1, t.2, q⟩
  · rintro l l' u (q | ⟨v, q1, q2⟩)
    · exact Or.inl q
    · exact Or.inr ⟨v, List.mem_append.mpr (Or.inl q1), q2⟩
  · rintro l h ⟨_, M, _⟩
    exact vm_bs_db M (vm_bs_st hv0) (fun j _ _ => by omega) hσ
  · rintro d l h hT C ⟨G, M, ac, ar, P, I, hc, q3⟩ j0 hv
    refine vg_112 hT (vx_CV_mono (vc_111 (d := d + 1) hT C.1) ?_)
    rintro h1 ⟨F1, hg⟩ hT1
    rw [w8] at hg
    have C1 := vm_cx_fr C F1 (fun a k q => vm_W2_W q)
    have P1 := fa F1 (fun b k q => by omega) ⟨P, I⟩
    refine ⟨o, C1.1.1.1, C1.1.1.2.1, fun q => absurd (C1.1.2.1.trans hp) q, fun _ => ⟨a, C1.2.2.2.2.2.2.2.2.2, ta.1.1, vx_CI_mono (vc_174 (d := d + 1) vm_o21.1 hT1 ta.1 P1.1 (by rw [vm_o21.2.2.1]; exact Nat.le_refl _) hg) ?_⟩⟩
    rintro r8 h8 _ Q8 hT8
    have F8 := Q8.1
    have R8 : ve_R h8 21 8 = some a := (vx_fr_R F8 (by omega)).trans C1.2.2.2.2.2.2.2.2.2
    have M8 : vm_M h8 c0 r0 m0 := vm_M_fr (vm_M_fr M F1 (fun a k q => by omega)) F8 (fun b k q => by omega)
    have fin : ∀ (v : Int) (g : ve_H) (n : Nat) (br : Nat → Nat → Int), (v = 0 ∨ v = 1) → (v = 0 → n ≤ 200) → (v = 1 → n = 201) → g = vx_sJ h8 21 12 v → vr_P a 8 n br h8 → vm_id h8 (a + 2) n → vm_se 8 R (fun _ => False) (l ++ [vm_hv h]) n br → vx_fr vm_Wt h g ∧ vm_kp h g ∧ ((vx_J g 21 12 = 0 ∧ vm_XC h0 a c0 r0 m0 R (l ++ [vm_hv h]) g) ∨ (vx_J g 21 12 ≠ 0 ∧ vm_YC h0 a c0 r0 m0 R (l ++ [vm_hv h]) g)) := by
      intro v g n br hv n0 n1 eg Pn In Se
      have Fg : vx_fr (fun a k => a = 21 ∧ k = 12) h8 g := vx_fr_sJ vx_fr_refl eg ⟨rfl, rfl⟩
      have FF : vx_fr (fun b k => b = 32 ∨ vr_W a b k ∨ (b = 21 ∧ k = 12)) h g := vx_fr_trans (vx_fr_mono F1 (fun a k q => Or.inl q)) (vx_fr_trans (vx_fr_mono F8 (fun b k q => Or.inr (Or.inl q))) (vx_fr_mono Fg (fun a k q => Or.inr (Or.inr q))))
      have jg : vx_J g 21 12 = v := by rw [eg, vx_J_eq (by rcases hv with e | e <;> rw [e] <;> decide)]
      have tg := fa Fg (fun b k q => by omega) ⟨Pn, In⟩
      refine ⟨vx_fr_mono FF (fun b k q => by
        rcases q with q | q | q
        · exact ⟨by omega, by omega⟩
        · exact ⟨vm_tg_W ta q, by omega⟩
        · exact ⟨by omega, by omega⟩), vm_kp_fr FF (fun b k q => by omega), ?_⟩
      have Gg : vx_fr (vm_Wk a) h0 g := vx_fr_trans G (vx_fr_mono FF (fun b k q => by omega))
      have Mg : vm_M g c0 r0 m0 := vm_M_fr M8 Fg (fun b k q => by omega)
      rcases hv with e | e
      · exact Or.inl ⟨by rw [jg]; exact e, Gg, Mg, n, br, tg.1, tg.2, n0 e, Se⟩
      · have := n1 e
        subst this
        refine Or.inr ⟨by rw [jg, e]; decide, Gg, Mg, br, tg.1, tg.2, fun i hi => ?_⟩
        rcases Se.1 i hi with t | t
        · exact absurd t (fun t => t)
        · exact t
    have mem : vm_hv h ∈ l ++ [vm_hv h] := List.mem_append.mpr (Or.inr (List.mem_singleton.mpr rfl))
    refine ⟨a, R8, ta.1.1, ?_⟩
    rcases Q8.2 with ⟨e1, e2, e3⟩ | ⟨e1, e2, e3, e4, e5, e6⟩
    · have e4 : ∃ i, i < ac ∧ vr_eq 8 (ar i) (vm_gl R (vm_hv h)) := by
        rcases e3 with q | q
        · exact q
        · omega
      have P8 := P1
      rw [← e2] at P8
      have c8 : vx_J h8 a 4 = ac := P8.1.2.1
      refine ⟨fun _ => ?_, fun q => absurd q (by omega)⟩
      rintro h11 e11 _
      refine fin 0 h11 ac ar (Or.inl rfl) (fun _ => hc) (fun t => absurd t (by decide)) e11 P8.1 P8.2 ⟨fun i hi => ?_, fun f hf => ?_⟩
      · rcases q3.1 i hi with t | ⟨u, t1, t2⟩
        · exact Or.inl t
        · exact Or.inr ⟨u, List.mem_append.mpr (Or.inl t1), t2⟩
      · rcases hf with t | ⟨u, t1, t2⟩
        · exact absurd t (fun t => t)
        · rcases List.mem_append.mp t1 with t | t
          · exact q3.2 f (Or.inr ⟨u, t, t2⟩)
          · rw [List.mem_singleton.mp t] at t2
            obtain ⟨i, i1, i2⟩ := e4
            exact ⟨i, i1, vr_eq_trans i2 (vr_eq_symm t2)⟩
    · have c8 : vx_J h8 a 4 = (ac : Int) + 1 := by have := e4.2.1; omega
      have I8 : vm_id h8 (a + 2) (ac + 1) := fun i hi => by
        rw [t2.2.2] at e5 e6
        by_cases q : i = ac
        · rw [q]; exact e5
        · rw [e6 i q]; exact P1.2 i (by omega)
      have Se : vm_se 8 R (fun _ => False) (l ++ [vm_hv h]) (ac + 1) (vr_ad ar ac (vm_gl R (vm_hv h))) := by
        refine ⟨fun i hi => ?_, fun f hf => ?_⟩
        · by_cases q : i = ac
          · rw [q, vr_ad_eq]; exact Or.inr ⟨vm_hv h, mem, fun _ _ => rfl⟩
          · rw [vr_ad_lt (show i < ac by omega)]
            rcases q3.1 i (by omega) with t | ⟨u, t1, t2⟩
            · exact Or.inl t
            · exact Or.inr ⟨u, List.mem_append.mpr (Or.inl t1), t2⟩
        · rcases hf with t | ⟨u, t1, t2⟩
          · exact absurd t (fun t => t)
          · rcases List.mem_append.mp t1 with t | t
            · obtain ⟨i, i1, i2⟩ := q3.2 f (Or.inr ⟨u, t, t2⟩)
              exact ⟨i, by omega, by rw [vr_ad_lt i1]; exact i2⟩
            · rw [List.mem_singleton.mp t] at t2
              exact ⟨ac, by omega, by rw [vr_ad_eq]; exact vr_eq_symm t2⟩
      refine ⟨fun q => ?_, fun q => ?_⟩
      · rintro h11 e11 _
        exact fin 0 h11 (ac + 1) _ (Or.inl rfl) (fun _ => by omega) (fun t => absurd t (by decide)) e11 e4 I8 Se
      · rintro h12 e12 _
        exact fin 1 h12 (ac + 1) _ (Or.inr rfl) (fun t => absurd t (by decide)) (fun _ => by omega) e12 e4 I8 Se
  · rintro d e l h hT C ⟨G, M, ac, ar, P, I, hc, q3⟩ j0 hs he
    refine vx_CI_mono (vc_110 (d := d) (a := a) (cnt := ac) (rr := ar) hT C.1 C.2.2.2.2.2.2.2.2.2 (by rw [w8]; exact ta) (by rw [w8]; exact P)) ?_
    rintro r h1 _ ⟨F, q⟩
    have P1 := fa F (fun b k q => by omega) ⟨P, I⟩
    refine ⟨vx_fr_mono F (fun a k q => by omega), vm_kp_fr F (fun a k q => by omega), ⟨vx_fr_trans G (vx_fr_mono F (fun a k q => by omega)), vm_M_fr M F (fun a k q => by omega), ac, ar, P1.1, P1.2, hc, q3⟩, (vx_fr_J F (by omega)).trans j0, fun r0 u hu => ?_⟩
    have ge := vm_gl_ag (R := R) hu (hG e hs he)
    rw [w8] at ge q
    rcases q with ⟨_, i, i1, i2⟩ | ⟨t, _⟩
    · rcases q3.1 i i1 with s | ⟨w, s1, s2⟩
      · exact absurd s (fun t => t)
      · exact Or.inr ⟨w, s1, vr_eq_trans (vr_eq_symm ge) (vr_eq_trans (vr_eq_symm i2) s2)⟩
    · exact absurd t r0
  · intro l v u hvu
    have ge := vm_gl_nv (R := R) ha hvu
    rw [w8] at ge
    exact Or.inr ⟨v, List.mem_append.mpr (Or.inr (List.mem_singleton.mpr rfl)), vr_eq_symm ge⟩
end
