/-! Reading a clause: the reference -/
section
variable {d i c sd n m : Nat} {h h1 g : ve_H} {ts : vy_T} {V Pd Pd' : vy_V} {O : vy_O} {F F' : vy_F} {L : vy_L} {op : Bool} {x y : Int} {R : vu_R}
/-- a clause that is a rule, from behind its body on -/
theorem vu_rend {RR : Nat → vu_R} {cnt j : Nat} {rr : Nat → Nat → Int} {g1 g2 : ve_H} {p : Int} {A : Nat → Int} (hsd : sd < 2) (hc : c = 30 * sd + n) (hn : n < 30) (S : vu_rS h ts sd i Pd F n RR cnt rr) (F0 : vx_fr (vu_Sf c sd) h g) (M : vu_mo Pd F Pd' F') (B : vy_rr g ts c sd true j V O Pd' F') (Rl : vy_rl g c Pd' F' L) (l36 : vx_J g 636 c = p) (l39 : vx_J g 639 c = (if O.1 = -1 then 0 else O.1 - 4)) (l40 : O.1 ≠ -1 → vx_J g 640 c = O.2.1 ∧ vx_J g 662 c = O.2.2) (hA : ∀ k, k < m → vy_tr (A k) (vx_J g 637 (4 * c + k)) (vx_K g 638 (4 * c + k))) (hm : m ≤ 4) (h0 : ∀ k, m ≤ k → A k = 0) (hF : F'.1 = 0 → ∃ q : Nat, q < Pd'.1 ∧ p = q ∧ Pd'.2.2 q = m) (hij : i ≤ j) (f1 : vx_fr (fun a k => a = 657 ∨ vy_Sb a k) g g1) (hf1 : vy_rf g1 (vz_un (vz_s L) V F' V.1)) (e2 : g2 = vx_sJ g1 635 sd ((vx_J g1 635 sd) + 1)) :
    vx_fr (vu_Sk sd) h g2 ∧ vu_rS g2 ts sd j Pd' (vz_un (vz_s L) V F' V.1) (n + 1) (fun r => if r = n then (p, A, O, V.1, L) else RR r) cnt rr := by
  have M1 : vu_mo Pd' F' Pd' (vz_un (vz_s L) V F' V.1) := ⟨fun t => (vz_un_0 V.1 t).1, fun p hp => ⟨hp, rfl⟩⟩
  obtain ⟨k1, k2, k3, k4, k5, k6⟩ := vu_keepR hsd (by rw [if_neg (by omega)]; exact hc) F0 S (vu_mo_trans M M1)
  have hcc : (30 * sd ≤ c ∧ c < 30 * sd + 30) ∨ c = 60 := by omega
  have e635 : vx_J g1 635 sd = n := (vx_fr_J f1 (by simp)).trans k4
  rw [e635] at e2
  have f2 : vx_fr (fun a k => a = 635 ∧ k = sd) g1 g2 := vx_fr_sJ vx_fr_refl e2 ⟨rfl, rfl⟩
  have f3 : vx_fr (fun a k => a = 657 ∨ vy_Sb a k ∨ (a = 635 ∧ k = sd)) g g2 := vx_fr_trans (vx_fr_mono f1 (fun a k q => q.elim Or.inl (fun t => Or.inr (Or.inl t)))) (vx_fr_mono f2 (fun a k q => Or.inr (Or.inr q)))
  refine ⟨vx_fr_trans (vx_fr_mono F0 (fun a k q => vu_Sk_f hsd hcc q)) (vx_fr_trans (vx_fr_mono f1 (fun a k q => vu_Sk_f hsd hcc (q.elim (fun t => Or.inr (Or.inr (Or.inr t))) (fun t => Or.inl (Or.inl (Or.inl (vy_Sq_b t))))))) (vx_fr_mono f2 (fun a k q => vu_Sk_635 q))), vy_kr_fr k1 f3 (fun k => by simp), (vx_fr_J f3 (by simp)).trans B.1.2.1, B.1.2.2.1, (vx_fr_J f3 (by simp)).trans k2, (vx_fr_J f3 (by simp)).trans k3, vy_rp_fr B.2.2.2.2.1 f3 (by simp), ⟨(vx_fr_J f2 (by simp)).trans hf1.1, (vx_fr_J f2 (by simp)).trans hf1.2⟩, vz_un1 B.2.2.2.2.2.2 V.1, by rw [e2, vx_J_eq (by omega)]; omega, by omega, fun r hr => ?_, ?_⟩
  · have N : ∀ c', (∀ a, (a = 636 ∨ a = 639 ∨ a = 640 ∨ a = 641 ∨ a = 642 ∨ a = 662) → ¬ (fun a k => a = 657 ∨ vy_Sb a k ∨ (a = 635 ∧ k = sd)) a c') := fun c' a ha => by rcases ha with rfl | rfl | rfl | rfl | rfl | rfl <;> simp
    show vu_rr g2 (30 * sd + r) Pd' (vz_un (vz_s L) V F' V.1) (if r = n then (p, A, O, V.1, L) else RR r)
    by_cases q : r = n
    · rw [if_pos q, q, ← hc]
      refine vu_rr_fr (vu_rr_mono ⟨B.1.2.2.2.2.2.1, Rl, l39, l40, l36, m, hm, hA, h0, hF⟩ M1) f3 (N c) (fun k _ _ => by simp) (fun k _ _ => by simp) (fun k _ _ => by simp)
    · rw [if_neg q]
      exact vu_rr_fr (k5 r (by omega)) f3 (N _) (fun k _ _ => by simp) (fun k _ _ => by simp) (fun k _ _ => by simp)
  · obtain ⟨c0, e47, l0, rF⟩ := k6
    exact ⟨c0, (vx_fr_J f3 (by simp)).trans e47, by omega, fun t => ⟨(rF t).1, fun j' hj' => vu_rf_fr ((rF t).2 j' hj') f3 ⟨by simp, fun k _ _ => by simp⟩⟩⟩
theorem vu_Sf_n {a k : Nat} (q : vy_Sn c sd a k) : vu_Sf c sd a k := Or.inl (Or.inl q)
theorem vu_Sf_z {a k : Nat} (q : vy_Sz c sd a k) : vu_Sf c sd a k := Or.inl q
theorem vu_Sf_b {a k : Nat} (q : vu_Sb c a k) : vu_Sf c sd a k := Or.inr (Or.inl q)
theorem vu_Sf_l {a k : Nat} (q : vu_Sl c a k) : vu_Sf c sd a k := Or.inr (Or.inr (Or.inl q))
theorem vu_Sf_10 {a k : Nat} (q : a = 625 ∧ k = 10) : vu_Sf c sd a k := Or.inl (Or.inl (Or.inl (vy_Sq_10 q)))
theorem vu_Sf_q {a k : Nat} (q : vy_Sb a k) : vu_Sf c sd a k := Or.inl (Or.inl (Or.inl (vy_Sq_b q)))
theorem vy_rr_10 {j : Nat} (B : vy_rr g ts c sd op i V O Pd F) (f : vx_fr (fun a k => a = 625 ∧ k = 10) g h1) (Bb : vy_rb h1 ts c j V) : vy_rr h1 ts c sd op j V O Pd F :=
  ⟨Bb, vy_ro_fr B.2.1 f (by simp), (vx_fr_J f (by simp)).trans B.2.2.1, (vx_fr_J f (by simp)).trans B.2.2.2.1, vy_rp_fr B.2.2.2.2.1 f (by simp), ⟨(vx_fr_J f (by simp)).trans B.2.2.2.2.2.1.1, (vx_fr_J f (by simp)).trans B.2.2.2.2.2.1.2⟩, B.2.2.2.2.2.2⟩
theorem vu_55 {RR : Nat → vu_R} {cnt : Nat} {rr : Nat → Nat → Int} (hT : vx_T 625 672 h) (ok : vy_ok ts) (ok2 : vy_ok2 ts) (S : vu_rS h ts sd i Pd F n RR cnt rr) (hc : c = if n = 30 then 60 else 30 * sd + n) (hx : x = c) : vx_CV (d + 6) 51 [.ref 625, .int (vx_i x)] h (fun h4 => vx_T 625 672 h4 → (0 ≤ (vx_J h4 625 10) ∧ (vx_J h4 625 10) < 602) ∧ vx_CI (d + 6) 42 [.ref 625, .int (vx_i 1), .int (vx_i 0)] h4 (fun r6 h6 => vx_T 625 672 h6 → ((r6 ≠ 0 → vx_CV (d + 6) 52 [.ref 625] h6 (fun h8 => vx_T 625 672 h8 → vx_CI (d + 6) 35 [.ref 625, .int (vx_i 46)] h8 (fun r9 h9 => vx_T 625 672 h9 → ((r9 = 0 → vx_CI (d + 6) 34 [.ref 625, .int (vx_i 300)] h9 (fun r11 h11 => vx_T 625 672 h11 → ((r11 ≠ 0 → (0 ≤ (vx_J h11 625 48) ∧ (vx_J h11 625 48) < 2) ∧ (((vx_J h11 635 (vx_J h11 625 48).toNat) ≠ 30 → (∀ h15, h15 = vx_sJ h11 625 10 ((vx_J h11 625 10) + 1) → vx_T 625 672 h15 → vx_CI (d + 6) 46 [.ref 625] h15 (fun r16 h16 => vx_T 625 672 h16 → ((r16 = 0 → vu_rP ts sd n RR cnt rr (vu_cs ts n i Pd F) h 0 h16) ∧ (r16 ≠ 0 → vx_CI (d + 6) 36 [.ref 625, .int (vx_i 46)] h16 (fun r18 h18 => vx_T 625 672 h18 → ((r18 ≠ 0 → vx_CV (d + 6) 49 [.ref 625] h18 (fun h20 => vx_T 625 672 h20 → (0 ≤ (vx_J h20 625 48) ∧ (vx_J h20 625 48) < 2) ∧ (0 ≤ (vx_J h20 625 48) ∧ (vx_J h20 625 48) < 2) ∧ (∀ h23, h23 = vx_sJ h20 635 (vx_J h20 625 48).toNat ((vx_J h20 635 (vx_J h20 625 48).toNat) + 1) → vx_T 625 672 h23 → vu_rP ts sd n RR cnt rr (vu_cs ts n i Pd F) h 1 h23))) ∧ (r18 = 0 → vu_rP ts sd n RR cnt rr (vu_cs ts n i Pd F) h 0 h18)))))))) ∧ ((vx_J h11 635 (vx_J h11 625 48).toNat) = 30 → vx_CI (d + 6) 32 [.ref 625, .int (vx_i (vx_J h4 628 (vx_J h4 625 10).toNat))] h11 (fun r24 h24 => vx_T 625 672 h24 → (r24 = 0 ∨ r24 = 1) ∧ vu_rP ts sd n RR cnt rr (vu_cs ts n i Pd F) h r24 h24)))) ∧ (r11 = 0 → vx_CI (d + 6) 33 [.ref 625] h11 (fun r26 h26 => vx_T 625 672 h26 → (r26 = 0 ∨ r26 = 1) ∧ vu_rP ts sd n RR cnt rr (vu_cs ts n i Pd F) h r26 h26))))) ∧ (r9 ≠ 0 → (((vx_J h9 625 53) = ((-1)) → vx_CI (d + 6) 53 [.ref 625] h9 (fun r29 h29 => vx_T 625 672 h29 → ((r29 ≠ ((-1)) → vu_rP ts sd n RR cnt rr (vu_cs ts n i Pd F) h 1 h29) ∧ (r29 = ((-1)) → vx_CV (d + 6) 54 [.ref 625] h29 (fun h31 => vx_T 625 672 h31 → vu_rP ts sd n RR cnt rr (vu_cs ts n i Pd F) h 1 h31))))) ∧ ((vx_J h9 625 53) ≠ ((-1)) → vx_CI (d + 6) 32 [.ref 625, .int (vx_i (vx_J h9 625 53))] h9 (fun r32 h32 => vx_T 625 672 h32 → (r32 = 0 ∨ r32 = 1) ∧ vu_rP ts sd n RR cnt rr (vu_cs ts n i Pd F) h r32 h32)))))))) ∧ (r6 = 0 → vu_rP ts sd n RR cnt rr (vu_cs ts n i Pd F) h 0 h6)))) := by
  obtain ⟨K, h10, hi, h48, h49, hp, hF, F1, h635, hn, hR, hf⟩ := id S
  have hsd := hp.1
  have hl := ok.2.1
  have hcc : (30 * sd ≤ c ∧ c < 30 * sd + 30) ∨ c = 60 := by split at hc <;> omega
  have c61 : c < 61 := by omega
  have hpr := vy_p_r ok i
  refine vx_CV_mono (vc_51 hT hx c61) ?_
  rintro h4 ⟨f4, b42, b642, b641, b639, b54, b53⟩ T4
  have F4 : vx_fr (vu_Sf c sd) h h4 := vx_fr_mono f4 (fun a k q => vu_Sf_b q)
  have K4 : vt_kr h4 0 ts := vy_kr_fr K f4 (fun k => by simp [vu_Sb])
  have d10 : vx_J h4 625 10 = i := (vx_fr_J f4 (by simp [vu_Sb])).trans h10
  have B4 : vy_rr h4 ts c sd true i vu_V0 vu_O0 Pd F := ⟨⟨K4, d10, hi, b42, c61, by rw [b642]; rfl, by decide, fun v hv => absurd (show v < 0 from hv) (by omega)⟩, ⟨b54, fun t => absurd rfl t, Or.inl rfl⟩, (vx_fr_J f4 (by simp [vu_Sb])).trans h48, (vx_fr_J f4 (by simp [vu_Sb])).trans h49, vy_rp_fr hp f4 (by simp [vu_Sb]), ⟨(vx_fr_J f4 (by simp [vu_Sb])).trans hF.1, (vx_fr_J f4 (by simp [vu_Sb])).trans hF.2⟩, F1⟩
  have fi4 : vy_fi h4 ts i vu_V0 vu_O0 := ⟨b53, fun t => absurd rfl t, fun v hv => absurd (show v < 0 from hv) (by omega)⟩
  rw [d10, Int.toNat_natCast, (vy_kr K4 hi).1]
  refine ⟨by omega, vx_CI_mono (vc_42 (d := d + 2) (hd := true) (any := false) T4 ok B4 ⟨by decide, fun _ => rfl, fun _ => by decide⟩ ⟨by decide, fun t => absurd rfl t, fun t => absurd t (by decide)⟩ (fun _ => rfl) (fun _ => fi4)) ?_⟩
  rintro r6 h6 _ ⟨f6, p6⟩ T6
  have F6 : vx_fr (vu_Sf c sd) h h6 := vx_fr_trans F4 (vx_fr_mono f6 (fun a k q => vu_Sf_n q))
  cases e : vy_am ts true true false i vu_V0 vu_O0 Pd F with
  | inl p =>
    rw [e] at p6
    exact ⟨fun t => absurd p6.1 t, fun _ => vu_rbad hsd hcc (by unfold vu_cs; rw [e]) F6 p6.2⟩
  | inr q =>
    rw [e] at p6
    obtain ⟨rfl, B6, A6, c50, c57, fi6⟩ := p6
    have fi6 := fi6 rfl
    have e0 : vu_cs ts n i Pd F = if vy_k ts q.1 = 46 then
      (if vy_ff q.2.1 q.2.2.1 ≠ -1 then .inl (vy_ff q.2.1 q.2.2.1) else .inr (q.1 + 1, q.2.2.2.2.2.2.1, q.2.2.2.2.2.2.2, .inl (q.2.2.2.2.2.1, q.2.2.2.1)))
    else if vy_k ts q.1 ≠ 10 then .inl (vy_p ts q.1)
    else if 30 ≤ n then .inl (vy_p ts i)
    else match vy_bo ts true q.2.2.1 6 (q.1 + 1) q.2.1 q.2.2.2.2.2.2.1 q.2.2.2.2.2.2.2 vu_L0 0 with
      | .inl p => .inl p
      | .inr u => if vy_k ts u.1 ≠ 46 then .inl (vy_p ts u.1)
        else .inr (u.1 + 1, u.2.2.1, vz_un (vz_s u.2.2.2.2.1) u.2.1 u.2.2.2.1 u.2.1.1, .inr (q.2.2.2.2.2.1, q.2.2.2.1, q.2.2.1, u.2.1.1, u.2.2.2.2.1)) := by unfold vu_cs; rw [e]; rfl
    have Qi := vy_am_i e
    have Qw := vy_am_w e
    have Qm := vy_am_m e
    have Qv := vy_am_v ok ok2 (show vu_V0.1 ≤ 8 by decide) e
    have Q1 := vy_am_1 F1 e
    rw [if_neg (vy_am_op e)] at c57
    refine ⟨fun _ => vx_CV_mono (vc_52 (d := d + 6) T6 c61 Qw.1.2 B6.1.2.2.2.1 c50) ?_, fun t => absurd t (by decide)⟩
    rintro h8 ⟨f8, l36, l39, l40, l62, l37⟩ T8
    have F8 : vx_fr (vu_Sf c sd) h h8 := vx_fr_trans F6 (vx_fr_mono f8 (fun a k q => vu_Sf_l q))
    have B8 : vy_rr h8 ts c sd true q.1 q.2.1 q.2.2.1 q.2.2.2.2.2.2.1 q.2.2.2.2.2.2.2 := vy_rr_fr B6 f8 (fun k => by simp [vu_Sl]) (fun k => by simp [vu_Sl]) (by simp [vu_Sl])
    have fi8 : vy_fi h8 ts q.1 q.2.1 q.2.2.1 := ⟨(vx_fr_J f8 (by simp [vu_Sl])).trans fi6.1, fi6.2⟩
    have A8 : vy_ra h8 q.2.2.2.1 q.2.2.2.2.1 := vy_ra_fr A6 f8 (fun k => by simp [vu_Sl])
    have g50 : vx_J h8 625 50 = (q.2.2.2.2.1 : Nat) := (vx_fr_J f8 (by simp [vu_Sl])).trans c50
    have g57 : vx_J h8 625 57 = q.2.2.2.2.2.1 := (vx_fr_J f8 (by simp [vu_Sl])).trans c57
    have L36 : vx_J h8 636 c = q.2.2.2.2.2.1 := l36.trans c57
    have L39 : vx_J h8 639 c = (if q.2.2.1.1 = -1 then 0 else q.2.2.1.1 - 4) := l39.trans B6.2.1.1
    have L40 : q.2.2.1.1 ≠ -1 → vx_J h8 640 c = q.2.2.1.2.1 ∧ vx_J h8 662 c = q.2.2.1.2.2 := fun t => ⟨l40.trans (B6.2.1.2.1 t).1, l62.trans (B6.2.1.2.1 t).2⟩
    have L37 : ∀ k, k < q.2.2.2.2.1 → vy_tr (q.2.2.2.1 k) (vx_J h8 637 (4 * c + k)) (vx_K h8 638 (4 * c + k)) := fun k hk => by rw [(l37 k hk).1, (l37 k hk).2]; exact A6 k hk
    have L41 : vx_J h8 641 c = 0 := (vx_fr_J f8 (by simp [vu_Sl])).trans ((vx_fr_J f6 (by simp [vy_Sn, vy_Sq])).trans b641)
    clear l36 l39 l40 l62 l37 A6 fi6 fi4 B4 b42 b642 b641 b639 b54 b53 B6 f8 f6 f4 K4
    refine vx_CI_mono (vc_35 (d := d + 5) (s := 46) T8 ok B8.1 (Or.inl (by decide)) (by decide)) ?_
    rintro r9 h9 _ (⟨rfl, k46, e9, Bb9⟩ | ⟨rfl, k46, rfl⟩) T9
    · refine ⟨fun t => absurd t (by decide), fun _ => ?_⟩
      rw [if_pos k46] at e0
      have f9 : vx_fr (fun a k => a = 625 ∧ k = 10) h8 h9 := vx_fr_sJ vx_fr_refl e9 ⟨rfl, rfl⟩
      have hj := Bb9.2.2.1
      exact vu_rfact (d := d + 6) (A := q.2.2.2.1) T9 hsd hc S ok (vx_fr_trans F8 (vx_fr_mono f9 (fun a k q => vu_Sf_10 q))) Qm (vy_rr_10 B8 f9 Bb9) ⟨(vx_fr_J f9 (by simp)).trans fi8.1, fi8.2.1, fun v hv => ⟨(fi8.2.2 v hv).1, by have := (fi8.2.2 v hv).2; have := ok.2.2.2.2.1 q.1 (q.1 + 1) (by omega) hj; omega⟩⟩ (vy_ra_fr A8 f9 (fun k => by simp)) ((vx_fr_J f9 (by simp)).trans g50) ((vx_fr_J f9 (by simp)).trans g57) Qw.1.2 Qw.2.1 Qv.2.2 Qw.2.2.2.2 (by omega) e0
    · refine ⟨fun _ => vx_CI_mono (vc_34 (d := d + 6) (s := 10) T9 ok B8.1 (Or.inr (by decide)) (by decide)) ?_, fun t => absurd rfl t⟩
      rw [if_neg k46] at e0
      have n3 : vx_J h9 625 3 ≠ 1 := by rw [B8.2.2.2.2.2.1.1]; exact Q1
      rintro r11 h11 _ ⟨rfl, ⟨rfl, q10⟩ | ⟨rfl, q10⟩⟩ T11
      rotate_left
      · rw [if_pos q10] at e0
        refine ⟨fun t => absurd rfl t, fun _ => vx_CI_mono (vc_33 (d := d + 5) T11 ok B8.1 n3) ?_⟩
        rintro r26 h26 _ ⟨rfl, f26, b26⟩ _
        exact ⟨Or.inl rfl, vu_rbad hsd hcc e0 (vx_fr_trans F8 (vx_fr_mono f26 (fun a k q => vu_Sf_q q))) b26⟩
      rw [if_neg (fun t => t q10)] at e0
      obtain ⟨k1, k2, k3, k4, k5, k6⟩ := vu_keepR hsd hc F8 S vu_mo_refl
      rw [k2, Int.toNat_natCast, k4]
      refine ⟨fun _ => ⟨by omega, fun q30 h15 e15 T15 => ?_, fun q30 => ?_⟩, fun t => absurd t (by decide)⟩
      rotate_left
      · rw [if_pos (show 30 ≤ n by omega)] at e0
        refine vx_CI_mono (vc_32 (d := d + 6) T11 (by omega) n3) ?_
        rintro r24 h24 _ ⟨rfl, f24, b24⟩ _
        exact ⟨Or.inl rfl, vu_rbad hsd hcc e0 (vx_fr_trans F8 (vx_fr_mono f24 (fun a k q => vu_Sf_q q))) b24⟩
      rw [if_neg (show ¬ 30 ≤ n by omega)] at e0
      rw [B8.1.2.1] at e15
      have hk0 : vy_k ts q.1 ≠ 0 := by rw [q10]; decide
      have hj1 : q.1 + 1 < ts.length := vy_nx ok B8.1.2.2.1 hk0
      have f15 : vx_fr (fun a k => a = 625 ∧ k = 10) h11 h15 := vx_fr_sJ vx_fr_refl e15 ⟨rfl, rfl⟩
      have B15 : vy_rr h15 ts c sd true (q.1 + 1) q.2.1 q.2.2.1 q.2.2.2.2.2.2.1 q.2.2.2.2.2.2.2 := vy_rr_10 B8 f15 (vy_rb_at B8.1 e15 (by omega) hj1 (by omega))
      have F15 : vx_fr (vu_Sf c sd) h h15 := vx_fr_trans F8 (vx_fr_mono f15 (fun a k q => vu_Sf_10 q))
      refine vx_CI_mono (vc_46 (d := d) (x := 0) (L := vu_L0) ok T15 B15 ⟨(vx_fr_J f15 (by simp)).trans L41, by decide, fun i hi => absurd (show i < 0 from hi) (by omega)⟩ rfl ((vx_fr_J f15 (by simp)).trans L39)) ?_
      rintro r16 h16 _ ⟨f16, p16⟩ T16
      have F16 : vx_fr (vu_Sf c sd) h h16 := vx_fr_trans F15 (vx_fr_mono f16 (fun a k q => vu_Sf_z q))
      cases e2 : vy_bo ts true q.2.2.1 6 (q.1 + 1) q.2.1 q.2.2.2.2.2.2.1 q.2.2.2.2.2.2.2 vu_L0 0 with
      | inl p =>
        rw [e2] at p16 e0
        exact ⟨fun _ => vu_rbad hsd hcc e0 F16 p16.2, fun t => absurd p16.1 t⟩
      | inr u =>
        rw [e2] at p16 e0
        obtain ⟨rfl, B16, R16, -, -, l16⟩ := p16
        have e0 : vu_cs ts n i Pd F = if vy_k ts u.1 ≠ 46 then .inl (vy_p ts u.1) else .inr (u.1 + 1, u.2.2.1, vz_un (vz_s u.2.2.2.2.1) u.2.1 u.2.2.2.1 u.2.1.1, .inr (q.2.2.2.2.2.1, q.2.2.2.1, q.2.2.1, u.2.1.1, u.2.2.2.2.1)) := e0
        have Ui := vy_bo_i 6 (q.1 + 1) _ _ _ _ _ e2
        have Um := vy_bo_m 6 (q.1 + 1) _ _ _ _ _ e2
        have Uw := vy_bo_w ok ok2 6 (q.1 + 1) _ _ _ _ _ Qv.2.1 (fun j hj => absurd (show j < 0 from hj) (by omega)) e2
        have n16 : vx_J h16 625 3 ≠ 1 := by rw [B16.2.2.2.2.2.1.1]; exact B16.2.2.2.2.2.2
        refine ⟨fun t => absurd t (by decide), fun _ => vx_CI_mono (vc_36 (d := d + 4) (s := 46) T16 ok B16.1 n16 (Or.inl (by decide)) (by decide)) ?_⟩
        rintro r18 h18 _ (⟨rfl, q46b, e18, Bb18⟩ | ⟨rfl, q46b, f18, b18⟩) T18
        rotate_left
        · rw [if_pos q46b] at e0
          exact ⟨fun t => absurd rfl t, fun _ => vu_rbad hsd hcc e0 (vx_fr_trans F16 (vx_fr_mono f18 (fun a k q => vu_Sf_q q))) b18⟩
        rw [if_neg (fun t => t q46b)] at e0
        have f18 : vx_fr (fun a k => a = 625 ∧ k = 10) h16 h18 := vx_fr_sJ vx_fr_refl e18 ⟨rfl, rfl⟩
        have B18 := vy_rr_10 B16 f18 Bb18
        have R18 : vy_rl h18 c u.2.2.1 u.2.2.2.1 u.2.2.2.2.1 := vy_rl_fr R16 f18 ⟨by simp, fun l _ _ => by simp, fun k _ _ => by simp⟩
        refine ⟨fun _ => vx_CV_mono (vc_49 (d := d + 5) T18 B18.1 R18 Uw.2.2 B18.2.2.2.2.2.1 B18.2.2.2.2.2.2) ?_, fun t => absurd t (by decide)⟩
        rintro h20 ⟨f20, hf20⟩ T20
        have F18 : vx_fr (vu_Sf c sd) h h18 := vx_fr_trans F16 (vx_fr_mono f18 (fun a k q => vu_Sf_10 q))
        have f818 : vx_fr (vy_Sz c sd) h11 h18 := vx_fr_trans (vx_fr_mono f15 (fun a k q => Or.inl (Or.inl (vy_Sq_10 q)))) (vx_fr_trans f16 (vx_fr_mono f18 (fun a k q => Or.inl (Or.inl (vy_Sq_10 q)))))
        have s48 : vx_J h20 625 48 = sd := (vx_fr_J f20 (by simp)).trans B18.2.2.1
        rw [s48, Int.toNat_natCast]
        refine ⟨by omega, by omega, fun h23 e23 T23 => ?_⟩
        have END := vu_rend (RR := RR) (cnt := cnt) (rr := rr) hsd (by rw [if_neg (by omega)] at hc; exact hc) (by omega) S F18 (vu_mo_trans Qm Um) B18 R18 ((vx_fr_J f818 (by simp [vy_Sz, vy_Sn, vy_Sq])).trans L36) ((vx_fr_J f818 (by simp [vy_Sz, vy_Sn, vy_Sq])).trans L39) (fun t => ⟨(vx_fr_J f818 (by simp [vy_Sz, vy_Sn, vy_Sq])).trans (L40 t).1, (vx_fr_J f818 (by simp [vy_Sz, vy_Sn, vy_Sq])).trans (L40 t).2⟩) (fun k hk => by rw [vx_fr_J f818 (by simp [vy_Sz, vy_Sn, vy_Sq]), vx_fr_K f818 (by simp [vy_Sz, vy_Sn, vy_Sq])]; exact L37 k hk) Qw.1.2 Qw.2.1 (fun t => by
          obtain ⟨pp, u1, u2, u3⟩ := Qw.2.2.2.2 (Um.1 t)
          exact ⟨pp, (Um.2 pp u1).1, u2, (Um.2 pp u1).2.trans u3⟩) (by omega) f20 hf20 e23
        rw [e0]
        exact ⟨END.1, rfl, END.2⟩
theorem vc_55 {RR : Nat → vu_R} {cnt : Nat} {rr : Nat → Nat → Int} (hT : vx_T 625 672 h) (ok : vy_ok ts) (ok2 : vy_ok2 ts) (S : vu_rS h ts sd i Pd F n RR cnt rr) : vx_CI (d + 7) 55 [.ref 625] h (vu_rP ts sd n RR cnt rr (vu_cs ts n i Pd F) h) := by
  obtain ⟨K, h10, hi, h48, h49, hp, hF, F1, h635, hn, hR, hf⟩ := id S
  have hsd := hp.1
  refine vg_55 hT ?_
  rw [h48, Int.toNat_natCast, h635]
  refine ⟨by omega, fun q => ⟨by omega, vu_55 (c := 30 * sd + n) hT ok ok2 S (by rw [if_neg (by omega)]) (by omega)⟩, fun q => vu_55 (c := 60) hT ok ok2 S (by rw [if_pos (by omega)]) rfl⟩
end
