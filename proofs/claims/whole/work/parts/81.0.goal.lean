/-! What comes out of a search: the goal, rows of the model: the class -/
def vm_gl (R : vu_R) (u : Nat → Int) : Nat → Int := if R.1 = -1 then (fun v => if v < R.2.2.2.1 then u v else 0) else vu_row R.1 (fun k => vm_v u (R.2.1 k))
def vm_gw (R : vu_R) : Nat := if R.1 = -1 then 8 else 5
/-- the rule that is worked -/
def vm_ru (h : ve_H) (o : Nat) (R : vu_R) : Prop := vm_rl h o R.2.2.2.2 ∧ vx_J h o 0 = R.1 ∧ (∀ k, k < 4 → vx_K h (vx_r o 1) k = R.2.1 k) ∧ vy_co h o R.2.2.1 ∧ vx_J h o 5 = R.2.2.2.1 ∧ R.2.2.2.1 ≤ 8
section
variable {d o l cnt : Nat} {h h1 : ve_H} {R : vu_R} {x y : Int} {rr : Nat → Nat → Int} {cm : Nat → Int} {f : Nat → Int}
theorem vm_ru_fr {S : Nat → Nat → Prop} (Q : vm_ru h o R) (f : vx_fr S h h1) (hs : ∀ a k, S a k → vm_W a k) : vm_ru h1 o R := by
  obtain ⟨q1, q2, q3, q4, q5, q6⟩ := Q
  have t := vm_o q1.2.1
  have e : ∀ a k, o ≤ a → a ≤ o + 8 → ¬ S a k := fun a k a1 a2 q => vm_oW q1.2.1 a1 a2 (hs a k q)
  refine ⟨vm_rl_fr q1 f hs, (vx_fr_J f (e o 0 (by omega) (by omega))).trans q2, fun k hk => (vx_fr_K f (e _ k (by omega) (by omega))).trans (q3 k hk), vy_co_fr q4 f ⟨e o 2 (by omega) (by omega), e o 3 (by omega) (by omega), e o 4 (by omega) (by omega)⟩, (vx_fr_J f (e o 5 (by omega) (by omega))).trans q5, q6⟩
abbrev vm_W2 (a _k : Nat) : Prop := a = 32
theorem vm_W2_W {a k : Nat} (q : vm_W2 a k) : vm_W a k := by omega
theorem vc_111_69 (Q : vm_ru h o R) (h0 : R.1 ≠ -1) :
    ∀ (m k : Nat) (g : ve_H) (z : Int), m = 4 - k → k ≤ 4 → z = k → vx_T 1 625 g → vx_fr vm_W2 h g → (∀ j, j < k + 1 → vx_K g 32 j = vm_gl R (vm_hv h) j) →
    vx_W (d + 1) 111 69 [some (.ref 21), some (.int (vx_i z))] [] g (vx_RV (fun h1 => vx_fr vm_W2 h h1 ∧ ∀ k, k < vm_gw R → vx_K h1 32 k = vm_gl R (vm_hv h) k)) := by
  have ew : vm_gw R = 5 := if_neg h0
  intro m
  induction m with
  | zero =>
    intro k g z hm hk hz hT F hs
    exact vg_111_69 hT ⟨by omega, fun _ => ⟨F, fun k hk => hs k (by omega)⟩, fun q => absurd q (by omega)⟩
  | succ m ih =>
    intro k g z hm hk hz hT F hs
    have Qg := vm_ru_fr Q F (fun a k q => vm_W2_W q)
    refine vg_111_69 hT ⟨by omega, fun q => absurd q (by omega), fun _ => ⟨o, Qg.1.1, Qg.1.2.1, by omega, ?_⟩⟩
    rw [show z.toNat = k by omega, Qg.2.2.1 k (by omega)]
    have hl : vx_rL (R.2.1 k) := by rw [← Qg.2.2.1 k (by omega)]; exact vx_rL_K _ _ _
    refine vx_CL_mono (vc_127 hT hl) ?_
    rintro r5 h5 hr5 ⟨rfl, e5⟩ _
    refine ⟨by omega, ?_⟩
    rintro h7 e7 hT7
    rw [show (z + 1).toNat = k + 1 by omega] at e7
    have hv : vm_hv h5 = vm_hv h := vm_hv_fr F (fun k => by omega)
    refine ih (k + 1) h7 (z + 1) (by omega) (by omega) (by omega) hT7 (vx_fr_sK F e7 rfl) (fun j hj => ?_)
    rw [e7]
    by_cases q : j = k + 1
    · rw [q, vx_K_eq hr5, e5, hv]
      unfold vm_gl
      rw [if_neg h0]
      rfl
    · rw [vx_K_ne (by omega)]; exact hs j (by omega)
theorem vc_111_13 (Q : vm_ru h o R) (h0 : R.1 = -1) :
    ∀ (m k : Nat) (g : ve_H) (z : Int), m = 8 - k → k ≤ 8 → z = k → vx_T 1 625 g → vx_fr vm_W2 h g → (∀ j, j < k → vx_K g 32 j = vm_gl R (vm_hv h) j) →
    vx_W (d + 1) 111 13 [some (.ref 21), some (.int (vx_i z))] [] g (vx_RV (fun h1 => vx_fr vm_W2 h h1 ∧ ∀ k, k < vm_gw R → vx_K h1 32 k = vm_gl R (vm_hv h) k)) := by
  have ew : vm_gw R = 8 := if_pos h0
  have eg : vm_gl R (vm_hv h) = (fun v => if v < R.2.2.2.1 then vm_hv h v else 0) := if_pos h0
  intro m
  induction m with
  | zero =>
    intro k g z hm hk hz hT F hs
    exact vg_111_13 hT ⟨by omega, fun _ => ⟨F, fun k hk => hs k (by omega)⟩, fun q => absurd q (by omega)⟩
  | succ m ih =>
    intro k g z hm hk hz hT F hs
    have Qg := vm_ru_fr Q F (fun a k q => vm_W2_W q)
    have e5 := Qg.2.2.2.2.1
    refine vg_111_13 hT ⟨by omega, fun q => absurd q (by omega), fun _ => ⟨o, Qg.1.1, Qg.1.2.1, fun q => ⟨by omega, ?_⟩, fun q => ⟨by omega, by omega, ?_⟩⟩⟩
    · rintro h6 e6 hT6
      rw [show z.toNat = k by omega] at e6
      refine ih (k + 1) h6 (z + 1) (by omega) (by omega) (by omega) hT6 (vx_fr_sK F e6 rfl) (fun j hj => ?_)
      rw [e6]
      by_cases q2 : j = k
      · rw [q2, vx_K_eq (by decide), eg]
        show 0 = if k < R.2.2.2.1 then vm_hv h k else 0
        rw [if_neg (by omega)]
      · rw [vx_K_ne (by omega)]; exact hs j (by omega)
    · rintro h9 e9 hT9
      rw [show z.toNat = k by omega] at e9
      refine ih (k + 1) h9 (z + 1) (by omega) (by omega) (by omega) hT9 (vx_fr_sK F e9 rfl) (fun j hj => ?_)
      rw [e9]
      by_cases q2 : j = k
      · rw [q2, vx_K_eq (vx_rL_K _ _ _), eg]
        show vx_K g 31 k = if k < R.2.2.2.1 then vm_hv h k else 0
        rw [if_pos (by omega)]
        exact vx_fr_K F (by omega)
      · rw [vx_K_ne (by omega)]; exact hs j (by omega)
theorem vc_111 (hT : vx_T 1 625 h) (Q : vm_ru h o R) : vx_CV (d + 1) 111 [.ref 21] h (fun h1 => vx_fr vm_W2 h h1 ∧ ∀ k, k < vm_gw R → vx_K h1 32 k = vm_gl R (vm_hv h) k) := by
  refine vg_111 hT ⟨o, Q.1.1, Q.1.2.1, fun q => ?_, fun q => ?_⟩
  · rintro h3 e3 hT3
    rw [Q.2.1] at q e3
    have F : vx_fr vm_W2 h h3 := vx_fr_sK vx_fr_refl e3 rfl
    refine vc_111_69 Q q 4 0 h3 0 rfl (by omega) rfl hT3 F (fun j hj => ?_)
    have : j = 0 := by omega
    subst this
    rw [e3, vx_K_eq]
    · unfold vm_gl
      rw [if_neg q]
      rfl
    · have := vx_rI_J h o 0
      rw [Q.2.1] at this
      omega
  · rw [Q.2.1] at q
    exact vc_111_13 Q q 8 0 h 0 rfl (by omega) rfl hT vx_fr_refl (fun j hj => absurd hj (by omega))
/-- the table where goals go -/
def vm_tg (a w : Nat) : Prop := vr_K a w ∧ (a = 23 ∨ a = 34 ∨ a = 617 ∨ a = 621) ∧ vx_r a 1 = a + 3 ∧ vx_r a 2 = a + 1 ∧ vx_r a 3 = a + 2
theorem vm_t23 : vm_tg 23 5 := ⟨vm_K23.1, Or.inl rfl, vm_K23.2⟩
theorem vm_t34 : vm_tg 34 5 := ⟨vm_K34.1, Or.inr (Or.inl rfl), vm_K34.2⟩
theorem vm_t617 : vm_tg 617 8 := ⟨⟨by decide +kernel, Or.inr rfl, by decide +kernel⟩, Or.inr (Or.inr (Or.inl rfl)), by decide +kernel, by decide +kernel, by decide +kernel⟩
theorem vm_t621 : vm_tg 621 8 := ⟨⟨by decide +kernel, Or.inr rfl, by decide +kernel⟩, Or.inr (Or.inr (Or.inr rfl)), by decide +kernel, by decide +kernel, by decide +kernel⟩
theorem vm_tg_W {a w b k : Nat} (t : vm_tg a w) (q : vr_W a b k) : vm_W b k := by
  obtain ⟨_, t1, t2, t3, t4⟩ := t
  omega
theorem vm_P_fr {S : Nat → Nat → Prop} {a w : Nat} (t : vm_tg a w) (P : vr_P a w cnt rr h) (f : vx_fr S h h1) (hs : ∀ b k, S b k → b = 31 ∨ b = 32 ∨ b = 33 ∨ b = 21) : vr_P a w cnt rr h1 :=
  vr_P_fr P t.1 f (fun b k q r => by
    obtain ⟨_, t1, t2, t3, t4⟩ := t
    have := hs b k r
    omega)
theorem vc_110 {a : Nat} (hT : vx_T 1 625 h) (Q : vm_ru h o R) (h8 : ve_R h 21 8 = some a) (t : vm_tg a (vm_gw R)) (P : vr_P a (vm_gw R) cnt rr h) : vx_CI (d + 2) 110 [.ref 21] h (fun r h1 => vx_fr vm_W2 h h1 ∧ ((r = 1 ∧ ∃ i, i < cnt ∧ vr_eq (vm_gw R) (rr i) (vm_gl R (vm_hv h))) ∨ (r = 0 ∧ ∀ i, i < cnt → ¬ vr_eq (vm_gw R) (rr i) (vm_gl R (vm_hv h))))) := by
  refine vg_110 hT (vx_CV_mono (vc_111 (d := d) hT Q) ?_)
  rintro h1 ⟨F, hg⟩ hT1
  have w8 : vm_gw R ≤ 8 := by
    rcases t.1.2.1 with e | e <;> omega
  refine ⟨a, (vx_fr_R F (by omega)).trans h8, t.1.1, vx_CI_mono (vc_173 (d := d) vm_o21.1 hT1 t.1 (vm_P_fr t P F (fun b k q => Or.inr (Or.inl q))) (by rw [vm_o21.2.2.1]; exact w8) hg) ?_⟩
  rintro r3 h3 _ ⟨rfl, q⟩ _
  refine ⟨fun q3 => ⟨F, Or.inr ⟨rfl, fun i hi => ?_⟩⟩, fun q3 => ⟨F, Or.inl ⟨rfl, ?_⟩⟩⟩
  · rcases q with ⟨j, _, q4, _⟩ | ⟨_, q4⟩
    · omega
    · exact q4 i hi
  · rcases q with ⟨j, q4, _, q5⟩ | ⟨q4, _⟩
    · exact ⟨j, q4, q5⟩
    · exact absurd q4 q3
/-- one row more -/
def vm_cs (cm : Nat → Int) (cnt : Nat) (tn : Int) : Nat → Int := fun i => if i = cnt then tn else cm i
theorem vc_132 {p i : Nat} {tn : Int} (hT : vx_T 1 625 h) (hi : i < 201) (hx : x = i) (hy : y = p) (hp : p < 16) (ht : vx_rI tn) (hz : 0 ≤ vx_J h 30 p ∧ vx_J h 30 p < 1000) : vx_CV d 132 [.ref 22, .int (vx_i x), .int (vx_i y), .int (vx_i tn)] h (fun h1 => vx_fr (fun a k => ((a = 27 ∨ a = 28) ∧ k = i) ∨ ((a = 29 ∨ a = 30) ∧ k = p)) h h1 ∧ vx_J h1 27 i = tn ∧ vx_J h1 28 i = vx_J h 29 p ∧ vx_J h1 29 p = i ∧ vx_J h1 30 p = vx_J h 30 p + 1) := by
  refine vg_132 hT ⟨by omega, ?_⟩
  rw [show x.toNat = i by omega, show y.toNat = p by omega]
  rintro h2 e2 _
  refine ⟨by omega, by omega, ?_⟩
  rintro h5 e5 _
  refine ⟨by omega, ?_⟩
  rintro h7 e7 _
  refine ⟨by omega, by omega, ?_⟩
  rintro h10 e10 _
  have r7 : vx_J h7 30 p = vx_J h 30 p := by rw [e7, vx_J_ne (by omega), e5, vx_J_ne (by omega), e2, vx_J_ne (by omega)]
  refine ⟨vx_fr_sJ (vx_fr_sJ (vx_fr_sJ (vx_fr_sJ vx_fr_refl e2 (by omega)) e5 (by omega)) e7 (by omega)) e10 (by omega), ?_, ?_, ?_, ?_⟩
  · rw [e10, vx_J_ne (by omega), e7, vx_J_ne (by omega), e5, vx_J_ne (by omega), e2, vx_J_eq ht]
  · rw [e10, vx_J_ne (by omega), e7, vx_J_ne (by omega), e5, vx_J_eq (vx_rI_J _ _ _), e2, vx_J_ne (by omega)]
  · rw [e10, vx_J_ne (by omega), e7, vx_J_eq (by omega)]; exact hx
  · rw [e10, vx_J_eq (by omega), r7]
abbrev vm_Wa (a k : Nat) : Prop := (a = 21 ∧ k = 12) ∨ (a = 23 ∧ k = 4) ∨ (24 ≤ a ∧ a ≤ 30)
theorem vm_Wa_W {a k : Nat} (q : vm_Wa a k) : vm_W a k := by omega
theorem vm_cl_ad {q : Int} : vm_cl (vr_ad rr cnt f) q (cnt + 1) = if f 0 = q then cnt :: vm_cl rr q cnt else vm_cl rr q cnt := by
  show (if vr_ad rr cnt f cnt 0 = q then cnt :: vm_cl (vr_ad rr cnt f) q cnt else vm_cl (vr_ad rr cnt f) q cnt) = _
  rw [vr_ad_eq, vm_cl_congr cnt (fun i hi => by rw [vr_ad_lt hi])]
theorem vc_113 {p : Nat} {tn : Int} (hT : vx_T 1 625 h) (M : vm_M h cnt rr cm) (hc : cnt ≤ 200) (hf : ∀ k, k < 5 → vx_K h 32 k = f k) (hp : f 0 = p) (p16 : p < 16) (h10 : vx_J h 21 10 = tn) : vx_CV (d + 2) 113 [.ref 21] h (fun h1 => vx_fr vm_Wa h h1 ∧ (∀ i, i < cnt → vx_J h1 28 i = vx_J h 28 i) ∧ (((∃ i, i < cnt ∧ vr_eq 5 (rr i) f) ∧ vm_M h1 cnt rr cm ∧ (∀ j, vx_J h1 25 j = vx_J h 25 j) ∧ vx_J h1 21 12 = 0) ∨ ((∀ i, i < cnt → ¬ vr_eq 5 (rr i) f) ∧ vm_M h1 (cnt + 1) (vr_ad rr cnt f) (vm_cs cm cnt tn) ∧ (vx_J h1 25 cnt = cnt ∧ ∀ j, j ≠ cnt → vx_J h1 25 j = vx_J h 25 j) ∧ vx_J h1 21 12 = (if cnt < 200 then 0 else 1)))) := by
  have M0 := M
  obtain ⟨m1, m2, m3⟩ := M
  have kk := vm_K23
  refine vg_113 hT (vx_CI_mono (vc_174 (d := d) vm_o21.1 hT kk.1 m1 (by rw [vm_o21.2.2.1]; decide) hf) ?_)
  rintro r1 h1 _ ⟨F, q⟩ hT1
  rcases q with ⟨e1, e2, e3⟩ | ⟨e1, e2, e3, e4, e5, e6⟩
  · have e4 : ∃ i, i < cnt ∧ vr_eq 5 (rr i) f := by
      rcases e3 with q | q
      · exact q
      · omega
    refine ⟨fun _ => ⟨fun _ => ?_, fun q => ?_⟩, fun q => absurd e1 q⟩
    · rintro h4 e40 _
      have F4 : vx_fr (fun a k => a = 21 ∧ k = 12) h h4 := vx_fr_sJ (by rw [e2]; exact vx_fr_refl) e40 ⟨rfl, rfl⟩
      exact ⟨vx_fr_mono F4 (fun a k q => by omega), fun i _ => vx_fr_J F4 (by omega), Or.inl ⟨e4, vm_M_fr M0 F4 (fun a k q => by omega), fun j => vx_fr_J F4 (by omega), by rw [e40, vx_J_eq (by decide)]⟩⟩
    · rw [e2, m1.2.1] at q
      exact absurd q (by omega)
  · refine ⟨fun q => absurd q (by omega), fun _ => ?_⟩
    have e32 : vx_K h1 32 0 = p := by rw [vx_fr_K F (by have := kk.2; omega), hf 0 (by omega), hp]
    have e10 : vx_J h1 21 10 = tn := by rw [vx_fr_J F (by have := kk.2; omega)]; exact h10
    have e30 : vx_J h1 30 p = ((vm_cl rr p cnt).length : Nat) := by rw [vx_fr_J F (by have := kk.2; omega)]; exact (m3 p p16).2
    have len := vm_cl_len (rr := rr) (p := p) cnt
    rw [e32, e10]
    refine vx_CV_mono (vc_132 (d := d + 1) (i := cnt) (p := p) hT1 (by omega) e1 rfl p16 (by rw [← h10]; exact vx_rI_J _ _ _) (by omega)) ?_
    rintro h6 ⟨F6, f1, f2, f3, f4⟩ hT6
    have c6 : vx_J h6 23 4 = (cnt : Int) + 1 := by
      rw [vx_fr_J F6 (by omega)]
      have := e4.2.1
      omega
    have fin : ∀ (v : Int) (h8 : ve_H), (v = if cnt < 200 then 0 else 1) → h8 = vx_sJ h6 21 12 v → vx_fr vm_Wa h h8 ∧ (∀ i, i < cnt → vx_J h8 28 i = vx_J h 28 i) ∧ (((∃ i, i < cnt ∧ vr_eq 5 (rr i) f) ∧ vm_M h8 cnt rr cm ∧ (∀ j, vx_J h8 25 j = vx_J h 25 j) ∧ vx_J h8 21 12 = 0) ∨ ((∀ i, i < cnt → ¬ vr_eq 5 (rr i) f) ∧ vm_M h8 (cnt + 1) (vr_ad rr cnt f) (vm_cs cm cnt tn) ∧ (vx_J h8 25 cnt = cnt ∧ ∀ j, j ≠ cnt → vx_J h8 25 j = vx_J h 25 j) ∧ vx_J h8 21 12 = (if cnt < 200 then 0 else 1))) := by
      intro v h8 hv e8
      have F8 : vx_fr (fun a k => ((a = 27 ∨ a = 28) ∧ k = cnt) ∨ ((a = 29 ∨ a = 30) ∧ k = p) ∨ (a = 21 ∧ k = 12)) h1 h8 := vx_fr_sJ (vx_fr_mono F6 (fun a k q => by omega)) e8 (by omega)
      have j8 : ∀ a k, a ≠ 21 → vx_J h8 a k = vx_J h6 a k := fun a k q => by rw [e8, vx_J_ne (by omega)]
      have hn : ∀ i, i < cnt → vx_J h8 28 i = vx_J h 28 i := fun i hi => (vx_fr_J F8 (by omega)).trans (vx_fr_J F (by have := kk.2; omega))
      refine ⟨vx_fr_trans (vx_fr_mono F (fun a k q => by have := kk.2; omega)) (vx_fr_mono F8 (fun a k q => by omega)), hn, Or.inr ⟨e3, ⟨vr_P_fr e4 kk.1 F8 (fun b k q t => by have := kk.2; omega), fun i hi => ?_, fun q hq => ?_⟩, ⟨?_, fun j hj => ?_⟩, ?_⟩⟩
      · unfold vm_cs
        by_cases qi : i = cnt
        · rw [if_pos qi, qi, j8 27 cnt (by decide), f1]
        · rw [if_neg qi, vx_fr_J F8 (by omega), vx_fr_J F (by have := kk.2; omega)]
          exact m2 i (by omega)
      · have ml : ∀ i, i ∈ vm_cl rr q cnt → vx_J h8 28 i = vx_J h 28 i := fun i hi => hn i (vm_cl_mem.mp hi).1
        rw [vm_cl_ad, hp]
        by_cases qp : q = p
        · subst qp
          rw [if_pos rfl, j8 29 q (by decide), f3, j8 30 q (by decide), f4, e30, List.length_cons]
          refine ⟨⟨rfl, ?_⟩, by omega⟩
          rw [j8 28 cnt (by decide), f2, vx_fr_J F (by have := kk.2; omega)]
          exact vm_ch_fr (m3 q hq).1 ml
        · rw [if_neg (by omega), vx_fr_J F8 (by omega), vx_fr_J F (by have := kk.2; omega), vx_fr_J F8 (by omega), vx_fr_J F (by have := kk.2; omega)]
          exact ⟨vm_ch_fr (m3 q hq).1 ml, (m3 q hq).2⟩
      · rw [vx_fr_J F8 (by omega), ← kk.2.2.2]; exact e5
      · rw [vx_fr_J F8 (by omega), ← kk.2.2.2]; exact e6 j hj
      · rw [e8, vx_J_eq (by rw [hv]; split <;> decide)]; exact hv
    refine ⟨fun q => ?_, fun q => ?_⟩
    · rintro h8 e8 _
      exact fin 0 h8 (by rw [if_pos (by omega)]) e8
    · rintro h9 e9 _
      exact fin 1 h9 (by rw [if_neg (by omega)]) e9
end
