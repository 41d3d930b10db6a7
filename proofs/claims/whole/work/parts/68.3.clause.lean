/-! Reading a clause: the class, its walk -/
section
variable {d i o pi n : Nat} {h h1 : ve_H} {ts : vy_T} {V Pd : vy_V} {O : vy_O} {F : vy_F} {L : vy_L} {op : Bool} {x y : Int}
theorem vu_bad {RR : Nat → vu_R} {cnt : Nat} {rr : Nat → Nat → Int} {p : Int} {g : ve_H} {R : vu_C} (e : R = .inl p) (f : vx_fr (vu_Sd pi n) h g) (b : vy_bad p g) : vu_cP ts pi n RR cnt rr R h 0 g := by
  rw [e]; exact ⟨vx_fr_mono f (fun a k q => Or.inl q), rfl, b⟩
/-- a clause that is a fact, from its point on -/
theorem vu_fact {RR : Nat → vu_R} {cnt : Nat} {rr : Nat → Nat → Int} {R : vu_C} {p : Int} {A : Nat → Int} {g : ve_H} {j : Nat} (hT : vx_T 1 625 g) (hn : n < 31) (ho : o = pi + 10 + 9 * n) (hO : vx_o 1 625 7 o) (hp : vx_o 1 625 5 pi) (F0 : vx_fr (vu_Sd pi n) h g) (K : vt_kc h 0 ts) (h6 : ve_R h 7 6 = some pi) (h7 : vx_J h 7 7 = 1) (hR : ∀ r, r < n → vu_cr h (pi + 10 + 9 * r) (RR r)) (hP : vr_P (pi + 6) 5 cnt rr h) (pg : vx_J g pi 7 = n) (hc : 5 * (cnt + 1) ≤ j) (hj : j ≤ 600) (F1 : F.1 ≠ 1) (C : vy_cr g ts o pi true j V O Pd F) (pr : vz_pr V O) (h10 : vx_J g 7 10 = p) (hA : ∀ k, k < 4 → vx_K g 17 k = A k)
    (e0 : R = if vy_ff V O ≠ -1 then .inl (vy_ff V O) else .inr (j, Pd, F, .inl (p, A))) :
    vx_CI (d + 2) 151 [.ref 7] g (fun r28 h28 => vx_T 1 625 h28 → ((r28 = 0 → (r28 = 0 ∨ r28 = 1) ∧ vu_cP ts pi n RR cnt rr R h r28 h28) ∧ (r28 ≠ 0 → (∃ b31, ve_R h28 7 6 = some b31 ∧ vx_o 1 625 5 b31 ∧ vx_CI (d + 2) 174 [.ref (vx_r b31 5), .ref 18] h28 (fun r32 h32 => vx_T 1 625 h32 → (r28 = 0 ∨ r28 = 1) ∧ vu_cP ts pi n RR cnt rr R h r28 h32))))) := by
  refine vx_CI_mono (vc_151 (d := d + 1) hT C.1.2.2.2.1 hO C.1.2.2.2.2.2.1 (fun v hv => (C.1.2.2.2.2.2.2.2 v hv).2) C.2.1 pr h10 hA) ?_
  rintro r28 h28 _ (⟨c1, rfl, f28, w28⟩ | ⟨c1, rfl, f28, b28⟩) T28
  · rw [if_neg (fun t => t c1)] at e0
    have C28 := vu_cr_18 hn ho hp C f28
    have F28 : vx_fr (vu_Sd pi n) h h28 := vx_fr_trans F0 (vx_fr_mono f28 (fun a k q => vu_Sd_18 q))
    obtain ⟨k1, k2, k3, k4, k5⟩ := vu_keep hp (Nat.le_of_lt_succ hn) F28 K h6 h7 hR hP
    refine ⟨fun t => absurd t (by decide), fun _ => ⟨pi, C28.2.2.1, hp, ?_⟩⟩
    rw [(vx_po hp).2.2.2.2.2.1]
    have o18 : vx_o 1 625 21 18 := by decide +kernel
    have z18 : vx_za 18 = 5 := by decide +kernel
    refine vx_CI_mono (vc_174 (d := d + 1) o18 T28 (vu_fK hp).1 k5 (Nat.le_of_eq z18.symm) w28) ?_
    rintro r32 h32 _ ⟨f32, p32⟩ _
    refine ⟨Or.inr rfl, ?_⟩
    rw [e0]
    have C32 := vu_cr_W hn ho hp C28 f32
    obtain ⟨l1, l2⟩ := vu_keepW hp (Nat.le_of_lt_succ hn) f32 k4
    have pi18 : pi ≠ 18 := by have := (vx_po hp).2.2.2.2.2.2; omega
    have pn : vx_J h32 pi 7 = n := l2.trans ((vx_fr_J f28 pi18).trans pg)
    refine ⟨vx_fr_trans (vx_fr_mono F28 (fun a k q => Or.inl q)) (vx_fr_mono f32 (fun a k q => vu_Sc_W hp q)), rfl, ?_⟩
    show vu_cS h32 ts pi j Pd F n RR (vu_fa cnt rr (vu_row p A)).1 (vu_fa cnt rr (vu_row p A)).2
    rcases p32 with ⟨-, rfl, u⟩ | ⟨-, -, u, P32, -⟩
    · have u : ∃ i, i < cnt ∧ vr_eq 5 (rr i) (vu_row p A) := by
        rcases u with u | u
        · exact u
        · exfalso; omega
      rw [vu_fa_t u]
      exact ⟨C32.1.1, C32.1.2.1, C32.1.2.2.1, C32.2.2.1, C32.2.2.2.1, C32.2.2.2.2.1, C32.2.2.2.2.2, F1, pn, Nat.le_of_lt_succ hn, l1, k5, by show 5 * cnt ≤ j; omega⟩
    · rw [vu_fa_f u]
      exact ⟨C32.1.1, C32.1.2.1, C32.1.2.2.1, C32.2.2.1, C32.2.2.2.1, C32.2.2.2.2.1, C32.2.2.2.2.2, F1, pn, Nat.le_of_lt_succ hn, l1, P32, hc⟩
  · rw [if_pos c1] at e0
    exact ⟨fun _ => ⟨Or.inl rfl, vu_bad e0 (vx_fr_trans F0 (vx_fr_mono f28 (fun a k q => vu_Sd_7 ⟨q.1, Or.inr q.2⟩))) b28⟩, fun t => absurd rfl t⟩
theorem vy_am_1 {hd any : Bool} {q : Nat × vy_V × vy_O × (Nat → Int) × Nat × Int × vy_V × vy_F} (F1 : F.1 ≠ 1) (e : vy_am ts op hd any i V O Pd F = .inr q) : q.2.2.2.2.2.2.2.1 ≠ 1 := by
  unfold vy_am at e
  split at e
  · cases e
  split at e
  · cases e
  split at e
  · cases e
  split at e
  · cases e
  rename_i u hu
  split at e
  · cases e
  split at e
  · cases e
    show (if Pd.2.2 (vy_vx Pd (vy_v ts i)) = (u.2.2.2.2 : Int) then F else vy_nt F 2 (vy_p ts i)).1 ≠ 1
    split
    · exact F1
    · exact vy_nt1 F1
  split at e
  · cases e; exact F1
  · cases e; exact vy_nt1 F1
theorem vy_li_1 {q : Nat × vy_V × vy_V × vy_F × vy_L × Nat} {at_ : Nat} (F1 : F.1 ≠ 1) (e : vy_li ts op i V O Pd F L at_ = .inr q) : q.2.2.2.1.1 ≠ 1 := by
  unfold vy_li at e
  split at e
  · split at e
    · cases e
    rename_i u hu
    cases e; exact vy_am_1 F1 hu
  split at e
  · split at e
    · cases e
    split at e
    · cases e
    rename_i u hu
    cases e; exact vy_am_1 F1 hu
  · split at e
    · cases e
    · cases e; exact F1
theorem vy_bo_1 : ∀ (m i : Nat) (V Pd : vy_V) (F : vy_F) (L : vy_L) (at_ : Nat) {q : Nat × vy_V × vy_V × vy_F × vy_L × Nat}, F.1 ≠ 1 → vy_bo ts op O m i V Pd F L at_ = .inr q → q.2.2.2.1.1 ≠ 1
  | 0, i, V, Pd, F, L, at_, q, F1, e => by cases e
  | m + 1, i, V, Pd, F, L, at_, q, F1, e => by
    unfold vy_bo at e
    split at e
    · cases e
    rename_i u hu
    have := vy_li_1 F1 hu
    split at e
    · exact vy_bo_1 m _ _ _ _ _ _ this e
    · cases e; exact this
theorem vc_150 {RR : Nat → vu_R} {cnt : Nat} {rr : Nat → Nat → Int} (hT : vx_T 1 625 h) (ok : vy_ok ts) (ok2 : vy_ok2 ts) (S : vu_cS h ts pi i Pd F n RR cnt rr) : vx_CI (d + 6) 150 [.ref 7] h (vu_cP ts pi n RR cnt rr (vu_cs ts n i Pd F) h) := by
  obtain ⟨K, h9, hi, h6, h7, hpd, hF, F1, hpn, hn, hR, hP, hc⟩ := S
  have hp := hpd.1
  have hl := ok.2.1
  have hn31 : n < 31 := by omega
  have hpr := vy_p_r ok i
  obtain ⟨o, eo⟩ : ∃ o, o = pi + 10 + 9 * n := ⟨_, rfl⟩
  have ho : vx_o 1 625 7 o := by rw [eo]; exact vx_rk hp hn31
  refine vg_150 hT ⟨pi, h6, hp, ?_⟩
  rw [hpn, Int.toNat_natCast, vx_ru hp hn31, ← eo]
  refine ⟨by omega, vx_CV_mono (vc_149 (d := d + 4) ho hT) ?_⟩
  rintro h3 ⟨f3, c8, c0, c2, c5, c6, c7⟩ T3
  have F3 : vx_fr (vu_Sd pi n) h h3 := vx_fr_mono f3 (fun a k q => vu_Sd_0 eo q)
  obtain ⟨k1, k2, k3, k4, k5⟩ := vu_keep hp hn F3 K h6 h7 hR hP
  have B3 : vy_cr h3 ts o pi true i vu_V0 vu_O0 Pd F := vu_B3 hn31 eo hp ho f3 k1 h9 hi k2 k3 hpd hF c8 c2 c5
  have pn3 : vx_J h3 pi 7 = n := (vx_fr_J f3 (by have := (vx_po hp).2.2.2.2.2.2; omega)).trans hpn
  refine vx_CI_mono (vc_163 T3 ok B3.1) ?_
  rintro r4 h4 hr4 ⟨rfl, rfl⟩ _
  refine vx_CI_mono (vc_157 (d := d + 2) (hd := true) (any := false) T3 ok B3 (by decide) ⟨fun _ => rfl, fun _ => rfl⟩ ⟨fun t => absurd t (by decide), fun t => by exfalso; omega⟩) ?_
  rintro r5 h5 _ ⟨f5, p5⟩ T5
  have F5 : vx_fr (vu_Sd pi n) h h5 := vx_fr_trans F3 (vx_fr_mono f5 (fun a k q => vu_Sd_m eo hp q))
  cases e : vy_am ts true true false i vu_V0 vu_O0 Pd F with
  | inl p =>
    rw [e] at p5
    obtain ⟨rfl, b⟩ := p5
    exact ⟨fun t => absurd rfl t, fun _ => vu_bad (by unfold vu_cs; rw [e]) F5 b⟩
  | inr q =>
    rw [e] at p5
    obtain ⟨rfl, C5, A5, n5⟩ := p5
    have e0 : vu_cs ts n i Pd F = if vy_k ts q.1 = 46 then
      (if vy_ff q.2.1 q.2.2.1 ≠ -1 then .inl (vy_ff q.2.1 q.2.2.1) else .inr (q.1 + 1, q.2.2.2.2.2.2.1, q.2.2.2.2.2.2.2, .inl (q.2.2.2.2.2.1, q.2.2.2.1)))
    else if vy_k ts q.1 ≠ 10 then .inl (vy_p ts q.1)
    else if 30 ≤ n then .inl (vy_p ts i)
    else match vy_bo ts true q.2.2.1 6 (q.1 + 1) q.2.1 q.2.2.2.2.2.2.1 q.2.2.2.2.2.2.2 vu_L0 0 with
      | .inl p => .inl p
      | .inr u => if vy_k ts u.1 ≠ 46 then .inl (vy_p ts u.1)
        else .inr (u.1 + 1, u.2.2.1, vz_un (vz_s u.2.2.2.2.1) u.2.1 u.2.2.2.1 u.2.1.1, .inr (q.2.2.2.2.2.1, q.2.2.2.1, q.2.2.1, u.2.1.1, u.2.2.2.2.1)) := by unfold vu_cs; rw [e]; rfl
    have Q1 := vy_am_1 F1 e
    have Qi := vy_am_i e
    have Qp := vy_am_p ok vz_pr0 e
    have Qv := vy_am_v ok ok2 (show vu_V0.1 ≤ 8 by decide) e
    refine ⟨fun _ => ⟨o, C5.1.2.2.2.1, ho, fun h8 e8 T8 => ⟨by decide, fun h9 e9 T9 => ?_⟩⟩, fun t => absurd t (by decide)⟩
    rw [n5] at e8
    have rp : vx_rI q.2.2.2.2.2.1 := by rw [← n5]; exact vx_rI_J _ _ _
    have f9 : vx_fr (fun a k => (a = o ∧ k = 0) ∨ a = vx_r o 1) h5 h9 := vx_fr_cp (vx_fr_sJ vx_fr_refl e8 (Or.inl ⟨rfl, rfl⟩)) e9 (fun k _ _ => Or.inr rfl)
    have C9 := vu_cr_h hn31 eo hp C5 f9
    have F9 : vx_fr (vu_Sd pi n) h h9 := vx_fr_trans F5 (vx_fr_mono f9 (fun a k q => vu_Sd_h hn31 eo hp q))
    have ap := vu_ap hn31 eo hp
    have o1 : vx_r o 1 ≠ o ∧ vx_r o 1 ≠ 17 ∧ vx_r o 1 ≠ 7 ∧ o ≠ 7 ∧ o ≠ 17 ∧ pi ≠ o ∧ pi ≠ vx_r o 1 ∧ pi ≠ 7 := by rw [ap.2.2.2]; omega
    have d0 : vx_J h9 o 0 = q.2.2.2.2.2.1 := by rw [e9, vx_J_cp, e8, vx_J_eq rp]
    have d1 : ∀ k, k < 4 → vx_K h9 (vx_r o 1) k = q.2.2.2.1 k := fun k hk => by
      rw [e9, vx_K_cp, if_pos ⟨rfl, Nat.zero_le _, by omega⟩, e8, vx_K_sJ, Nat.sub_zero, Nat.zero_add]
      exact A5 k hk
    have d17 : ∀ k, k < 4 → vx_K h9 17 k = q.2.2.2.1 k := fun k hk => (vx_fr_K f9 (fun t => t.elim (fun t => o1.2.2.2.2.1 t.1.symm) (fun t => o1.2.1 t.symm))).trans (A5 k hk)
    have d10 : vx_J h9 7 10 = q.2.2.2.2.2.1 := (vx_fr_J f9 (fun t => t.elim (fun t => o1.2.2.2.1 t.1.symm) (fun t => o1.2.2.1 t.symm))).trans n5
    have RA := vu_rA (op := true) ho hp hn31 eo
    have pn9 : vx_J h9 pi 7 = n := (vx_fr_J f9 (fun t => t.elim (fun t => o1.2.2.2.2.2.1 t.1) o1.2.2.2.2.2.2.1)).trans ((vx_fr_J f5 (fun t => RA.2 (Or.inl t))).trans pn3)
    have o67 : vx_J h9 o 6 = 0 ∧ vx_J h9 o 7 = 0 := by
      have RE := vy_rE (op := true) ho hp 0
      exact ⟨(vx_fr_J f9 (fun t => t.elim (fun t => absurd t.2 (by decide)) (fun t => o1.1 t.symm))).trans ((vx_fr_J f5 RE.1).trans c6), (vx_fr_J f9 (fun t => t.elim (fun t => absurd t.2 (by decide)) (fun t => o1.1 t.symm))).trans ((vx_fr_J f5 RE.2.2.2.2.2).trans c7)⟩
    clear c0 c2 c5 c6 c7 c8
    refine vx_CI_mono (vc_164 T9 ok C9.1 (by decide) (by decide)) ?_
    rintro r11 h11 _ (⟨rfl, q46, e11, B11⟩ | ⟨rfl, q46, rfl⟩) T11
    · refine ⟨fun t => absurd t (by decide), fun _ => ?_⟩
      rw [if_pos q46] at e0
      have f11 : vx_fr (fun a k => a = 7 ∧ k = 9) h9 h11 := vx_fr_sJ vx_fr_refl e11 ⟨rfl, rfl⟩
      have C11 := vy_cr_9 ho hp C9 f11 B11
      have hj := B11.2.2.1
      exact vu_fact (d := d + 3) T11 hn31 eo ho hp (vx_fr_trans F9 (vx_fr_mono f11 (fun a k q => vu_Sd_7 ⟨q.1, Or.inl q.2⟩))) K h6 h7 hR hP ((vx_fr_J f11 (fun t => o1.2.2.2.2.2.2.2 t.1)).trans pn9) (by omega) (by omega) Q1 C11 Qp ((vx_fr_J f11 (by decide)).trans d10) (fun k hk => (vx_fr_K f11 (by simp)).trans (d17 k hk)) e0
    · refine ⟨fun _ => vx_CI_mono (vc_165 (d := d + 4) T9 ok C9.1 (by decide) (by decide)) ?_, fun t => absurd rfl t⟩
      rw [if_neg q46] at e0
      rintro r13 h13 _ (⟨rfl, q10, e13, B13⟩ | ⟨rfl, q10, f13, b13⟩) T13
      rotate_left
      · rw [if_pos q10] at e0
        exact ⟨fun t => absurd rfl t, fun _ => vu_bad e0 (vx_fr_trans F9 (vx_fr_mono f13 (fun a k q => vu_Sd_7 ⟨q.1, Or.inr q.2⟩))) b13⟩
      rw [if_neg (fun t => t q10)] at e0
      have f13 : vx_fr (fun a k => a = 7 ∧ k = 9) h11 h13 := vx_fr_sJ vx_fr_refl e13 ⟨rfl, rfl⟩
      have C13 := vy_cr_9 ho hp C9 f13 B13
      have F13 : vx_fr (vu_Sd pi n) h h13 := vx_fr_trans F9 (vx_fr_mono f13 (fun a k q => vu_Sd_7 ⟨q.1, Or.inl q.2⟩))
      have pn13 : vx_J h13 pi 7 = n := (vx_fr_J f13 (fun t => o1.2.2.2.2.2.2.2 t.1)).trans pn9
      refine ⟨fun _ => ⟨pi, C13.2.2.1, hp, ?_⟩, fun t => absurd t (by decide)⟩
      rw [pn13]
      refine ⟨fun qn => ?_, fun qn => ?_⟩
      · rw [if_neg (show ¬ 30 ≤ n by omega)] at e0
        have L13 : vy_cl h13 o vu_L0 := ⟨(vx_fr_J f13 (fun t => absurd t.2 (by decide))).trans o67.1, by decide, fun i hi => absurd (show i < 0 from hi) (by omega)⟩
        have a13 : vx_J h13 o 7 = ((0 : Nat) : Int) := (vx_fr_J f13 (fun t => absurd t.2 (by decide))).trans o67.2
        refine vx_CI_mono (vc_154 (d := d) T13 ok (⟨C13, L13, a13, by decide⟩) rfl) ?_
        rintro r17 h17 _ ⟨f17, p17⟩ T17
        have F17 : vx_fr (vu_Sd pi n) h h17 := vx_fr_trans F13 (vx_fr_mono f17 (fun a k q => vu_Sd_y hn31 eo hp q))
        cases e2 : vy_bo ts true q.2.2.1 6 (q.1 + 1) q.2.1 q.2.2.2.2.2.2.1 q.2.2.2.2.2.2.2 vu_L0 0 with
        | inl p =>
          rw [e2] at p17 e0
          obtain ⟨rfl, b⟩ := p17
          exact ⟨fun _ => vu_bad e0 F17 b, fun t => absurd rfl t⟩
        | inr u =>
          rw [e2] at p17 e0
          obtain ⟨rfl, C17, L17, -, -⟩ := p17
          have e0 : vu_cs ts n i Pd F = if vy_k ts u.1 ≠ 46 then .inl (vy_p ts u.1) else .inr (u.1 + 1, u.2.2.1, vz_un (vz_s u.2.2.2.2.1) u.2.1 u.2.2.2.1 u.2.1.1, .inr (q.2.2.2.2.2.1, q.2.2.2.1, q.2.2.1, u.2.1.1, u.2.2.2.2.1)) := e0
          have U1 := vy_bo_1 6 (q.1 + 1) _ _ _ _ _ Q1 e2
          have Ui := vy_bo_i 6 (q.1 + 1) _ _ _ _ _ e2
          have Uw := vy_bo_w ok ok2 6 (q.1 + 1) _ _ _ _ _ Qv.2.1 (fun j hj => absurd (show j < 0 from hj) (by omega)) e2
          refine ⟨fun t => absurd t (by decide), fun _ => vx_CI_mono (vc_165 (d := d + 4) T17 ok C17.1 (by decide) (by decide)) ?_⟩
          rintro r19 h19 _ (⟨rfl, q46b, e19, B19⟩ | ⟨rfl, q46b, f19, b19⟩) T19
          · rw [if_neg (fun t => t q46b)] at e0
            have f19 : vx_fr (fun a k => a = 7 ∧ k = 9) h17 h19 := vx_fr_sJ vx_fr_refl e19 ⟨rfl, rfl⟩
            have C19 := vy_cr_9 ho hp C17 f19 B19
            have L19 := vy_cl_9 ho L17 f19
            have F19 : vx_fr (vu_Sd pi n) h h19 := vx_fr_trans F17 (vx_fr_mono f19 (fun a k q => vu_Sd_7 ⟨q.1, Or.inl q.2⟩))
            have g0 : vx_J h19 o 0 = q.2.2.2.2.2.1 := (vx_fr_J f19 (fun t => o1.2.2.2.1 t.1)).trans ((vx_fr_J f17 RA.1.1).trans ((vx_fr_J f13 (fun t => o1.2.2.2.1 t.1)).trans d0))
            have g1 : ∀ k, k < 4 → vx_K h19 (vx_r o 1) k = q.2.2.2.1 k := fun k hk => (vx_fr_K f19 (fun t => o1.2.2.1 t.1)).trans ((vx_fr_K f17 (RA.1.2 k)).trans ((vx_fr_K f13 (fun t => o1.2.2.1 t.1)).trans (d1 k hk)))
            have pn19 : vx_J h19 pi 7 = n := (vx_fr_J f19 (fun t => o1.2.2.2.2.2.2.2 t.1)).trans ((vx_fr_J f17 RA.2).trans pn13)
            refine ⟨fun _ => ⟨o, C19.1.2.2.2.1, ho, vx_CI_mono (vc_185 (d := d + 1) ho T19 L19 C19.1.2.2.2.2.2.1 C19.1.2.2.2.2.2.2.1 C19.2.1.1) ?_⟩, fun t => absurd t (by decide)⟩
            rintro r22 h22 _ ⟨G, hG, hg, P22⟩ T22
            have hr22 : 0 ≤ r22 ∧ r22 < 256 := by
              obtain ⟨n', σ, b, d1, d2, d3, -⟩ := P22.2
              rw [d3]; exact (d2.2.1 n' (Nat.le_refl _)).1
            have RB := vu_rB ho hp hn31 eo
            have c8' : ve_R h22 7 8 = some o := by
              refine (vx_fr_R P22.1 ?_).trans C19.1.2.2.2.1
              have ro := vx_ro ho
              have r12 := ro.2.2.2.2.2.1
              have r13 := ro.2.2.2.2.2.2.1
              have r14 := ro.2.2.2.2.2.2.2.1
              have oo := o1.2.2.2.1
              clear ro
              rintro (t | t | t | t)
              · omega
              · omega
              · omega
              · exact oo t.1.symm
            have n20 : ∀ k, ¬ vz_Sp o 20 k := by
              have ro := vx_ro ho
              have r12 := ro.2.2.2.2.2.1
              have r13 := ro.2.2.2.2.2.2.1
              have r14 := ro.2.2.2.2.2.2.2.1
              have r99 := ro.2.2.2.2.2.2.2.2
              clear ro
              rintro k (t | t | t | t) <;> omega
            have n7 : ∀ k, ¬ vz_Sp o 7 k := by
              have ro := vx_ro ho
              have r12 := ro.2.2.2.2.2.1
              have r13 := ro.2.2.2.2.2.2.1
              have r14 := ro.2.2.2.2.2.2.2.1
              have r99 := ro.2.2.2.2.2.2.2.2
              clear ro
              rintro k (t | t | t | t) <;> omega
            refine vx_CV_mono (vc_153 (d := d + 4) (V := u.2.1) (F := u.2.2.2.1) T22 hr22 c8' ho ((vx_fr_J P22.1 (fun t => RB.2.2.1.2.2.2.2.1 (Or.inl t))).trans C19.1.2.2.2.2.2.1) C19.1.2.2.2.2.2.2.1 (fun v hv => (vx_fr_J P22.1 (n20 v)).trans (C19.1.2.2.2.2.2.2.2 v hv).2) ⟨(vx_fr_J P22.1 (n7 11)).trans C19.2.2.2.2.2.1, (vx_fr_J P22.1 (n7 12)).trans C19.2.2.2.2.2.2⟩) ?_
            rintro h23 ⟨f23, C23⟩ T23
            refine ⟨pi, (vx_fr_R f23 (by simp)).trans ((vx_fr_R P22.1 (n7 6)).trans C19.2.2.1), hp, fun h25 e25 T25 => ?_⟩
            have END := vu_end (RR := RR) (cnt := cnt) (rr := rr) hp (by omega) eo ho Uw.2.2 F19 K h6 h7 hR hP hpn (by omega) U1 C19 L19 g0 g1 pn19 hG hg P22 f23 C23 e25
            rw [e0]
            exact ⟨END.1, rfl, END.2⟩
          · rw [if_pos q46b] at e0
            exact ⟨fun t => absurd rfl t, fun _ => vu_bad e0 (vx_fr_trans F17 (vx_fr_mono f19 (fun a k q => vu_Sd_7 ⟨q.1, Or.inr q.2⟩))) b19⟩
      · rw [if_pos (show 30 ≤ n by omega)] at e0
        refine vx_CI_mono (vc_166 T13 hr4) ?_
        rintro r26 h26 _ ⟨rfl, f26, b26⟩ _
        exact ⟨Or.inl rfl, vu_bad e0 (vx_fr_trans F13 (vx_fr_mono f26 (fun a k q => vu_Sd_7 ⟨q.1, Or.inr q.2⟩))) b26⟩
end
