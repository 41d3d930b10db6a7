/-! A rule in a round: the class -/
/-- a program that was read, and its strata -/
def vm_pg (S : vu_S) (st : Nat → Nat) : Prop := vu_wS S ∧ vs_kp st S.2.2.1 S.2.2.2.1 ∧ (∀ p, p < 16 → st p ≤ 16) ∧ S.1.1 ≤ 16 ∧ S.2.2.1 ≤ 30
/-- the engine in a round -/
def vm_rc (h : ve_H) (pi : Nat) (S : vu_S) (st : Nat → Nat) (s : Nat) (tn : Int) : Prop := vu_cg h pi S.1 S.2.2.1 S.2.2.2.1 ∧ vs_cs h pi st ∧ ve_R h 21 6 = some pi ∧ vx_J h 21 9 = s ∧ vx_J h 21 10 = tn ∧ vx_J h 34 0 = (5 : Nat)
abbrev vm_Wr (a k : Nat) : Prop := vm_Wn a k ∨ (a = 21 ∧ (k = 7 ∨ k = 8 ∨ k = 11))
def vm_Qr (S : vu_S) (st : Nat → Nat) (s t c0 : Nat) (r0 : Nat → Nat → Int) (m0 : Nat → Int) (h : ve_H) (cnt : Nat) (rr : Nat → Nat → Int) (cm : Nat → Int) : Prop := vm_M h cnt rr cm ∧ vm_id h 25 cnt ∧ cnt ≤ 200 ∧ vm_bs c0 r0 m0 st s ((t : Int) + 1) cnt rr cm ∧ ∀ i, i < cnt → vm_mt S st s (t + 1) (rr i)
def vm_ke (cnt : Nat) (rr : Nat → Nat → Int) (cnt1 : Nat) (rr1 : Nat → Nat → Int) : Prop := ∀ i, i < cnt → ∃ j, j < cnt1 ∧ vr_eq 5 (rr1 j) (rr i)
def vm_en (h : ve_H) : Prop := ∃ cnt rr cm, vm_M h cnt rr cm ∧ vm_id h 25 cnt
section
variable {d o pi r : Nat} {S : vu_S} {R : vu_R} {σ : Nat → Nat} {b : Nat → Int} {st : Nat → Nat} {tn fr sd : Int} {s t c0 N cnt : Nat} {r0 rr : Nat → Nat → Int} {m0 cm : Nat → Int} {h h1 : ve_H}
theorem vm_pg_W (P : vm_pg S st) : ∀ r, r < S.2.2.1 → (S.2.2.2.1 r).1 ≠ -1 := fun r hr => by
  obtain ⟨p, _, q, _⟩ := (P.1.1 r hr).2.2.2.2.2.2.1
  omega
theorem vm_pg_sl (P : vm_pg S st) (hr : r < S.2.2.1) (eR : S.2.2.2.1 r = R) : vm_sl R.2.2.1.1 R.2.2.2.1 R.2.2.2.2 := by
  have W := P.1.1 r hr
  rw [eR] at W
  refine ⟨W.1, fun j hj => ?_⟩
  have t := W.2.2.2.2.2.2.2.1 j hj
  refine ⟨t.1, t.2.2, fun k => ?_⟩
  obtain ⟨p, _, p1, p2, _⟩ := t.2.1 k
  exact ⟨p, p1, by have := P.2.2.2.1; omega⟩
theorem vm_pg_sr (P : vm_pg S st) (hr : r < S.2.2.1) (eR : S.2.2.2.1 r = R) (hst : st R.1.toNat = s) : vm_sr st s R := by
  intro j hj k
  have K := P.2.1 r hr
  rw [eR] at K
  have t := K j hj k
  rw [hst] at t
  refine ⟨(vm_pg_sl P hr eR).2 j hj |>.2.2 k, ?_, fun q => ?_⟩
  · split at t <;> omega
  · rw [if_pos q] at t; omega
theorem vm_surj (Z : vz_st h o R.2.2.2.2 R.2.2.2.2.1 σ b) : (∀ e, e < R.2.2.2.2.1 → σ e < R.2.2.2.2.1) ∧ ∀ j, j < R.2.2.2.2.1 → ∃ e, e < R.2.2.2.2.1 ∧ σ e = j := ⟨fun e he => (Z.1 e he).1, vz_pig R.2.2.2.2.1 σ (fun e he => (Z.1 e he).1) Z.2.2⟩
/-- one search of a rule without a total -/
theorem vm_runA (P : vm_pg S st) (hr : r < S.2.2.1) (eR : S.2.2.2.1 r = R) (hst : st R.1.toNat = s) (hO : R.2.2.1.1 = -1) (hsN : s < N) (ht : t ≤ 300) (V : vm_lv S st s t c0 r0 m0) (C : vm_cx h o pi 23 R σ b st s ((t : Int) + 1) fr sd) (al : ∀ v, v < R.2.2.2.1 → vb (b R.2.2.2.2.1) v = true) (hG : ∀ e : Nat, sd ≤ e → e ≤ R.2.2.2.2.1 → ∀ i, vu_go R i → vb (b e) i = true) (hT : vx_T 1 625 h) (Q : vm_Qr S st s t c0 r0 m0 h cnt rr cm) (j0 : vx_J h 21 12 = 0) : vx_CV (d + 10) 109 [.ref 21, .int (vx_i 0)] h (fun h1 => vx_fr vm_Wn h h1 ∧ ((vx_J h1 21 12 = 0 ∧ ∃ cnt1 rr1 cm1, vm_Qr S st s t c0 r0 m0 h1 cnt1 rr1 cm1 ∧ vm_ke cnt rr cnt1 rr1 ∧ ∀ u, vm_so R.2.2.2.2 σ (vm_PA c0 r0 m0 st s ((t : Int) + 1) fr R.2.2.2.2 σ) (vm_NA c0 r0) 0 u → ∃ i, i < cnt1 ∧ vr_eq 5 (rr1 i) (vm_gl R u)) ∨ (vx_J h1 21 12 ≠ 0 ∧ vm_en h1 ∧ vm_big S st N))) := by
  have W := P.1.1 r hr
  rw [eR] at W
  obtain ⟨p, m, p1, p2, _⟩ := W.2.2.2.2.2.2.1
  have p16 : p < 16 := by have := P.2.2.2.1; omega
  have l6 := C.1.1.2.2.2.1
  have hs := vm_surj C.2.1
  have hsr := vm_pg_sr P hr eR hst
  have hst' : (st p : Int) = s := by rw [p1, show ((p : Nat) : Int).toNat = p by omega] at hst; omega
  obtain ⟨q1, q2, q3, q4, q5⟩ := Q
  obtain ⟨T0, eT0⟩ : ∃ T0 : vm_S, T0 = fun f => ∃ i, i < cnt ∧ vr_eq 5 (rr i) f := ⟨_, rfl⟩
  have cT0 : vm_cg 5 T0 := by
    rw [eT0]
    rintro f g e ⟨i, i1, i2⟩
    exact ⟨i, i1, vr_eq_trans i2 e⟩
  have H := vm_HA (h0 := h) (o := o) (pi := pi) (b := b) (tn := (t : Int) + 1) (fr := fr) (sd := sd) (c0 := c0) (r0 := r0) (m0 := m0) (T0 := T0) (sN := s) p1 p16 hO W.2.2.2.2.1 W.2.2.2.2.2.1 hst' (fun j hj k => by
    have := (hsr j hj (Or.inr k)).2.2 (Or.inl k)
    omega) hs.1 hG cT0
  have X0 : vm_XA h c0 r0 m0 st s ((t : Int) + 1) R T0 [] h := ⟨vx_fr_refl, cnt, rr, cm, q1, q2, q3, q4, fun i hi => Or.inl (by rw [eT0]; exact ⟨i, hi, fun _ _ => rfl⟩), fun f hf => by
    rcases hf with t | ⟨u, t, _⟩
    · rw [eT0] at t; exact t
    · exact absurd t List.not_mem_nil⟩
  have ok0 : vm_ok (b 0) (vm_hv h) := fun i hi => by
    obtain ⟨e', t, _⟩ := ((C.2.1.2.1 0 (Nat.zero_le _)).2 i).mp hi
    omega
  have go := vm_walk (d := d + (6 - R.2.2.2.2.1)) H (vm_pg_sl P hr eR) (fun _ _ => by omega) al R.2.2.2.2.1 0 h [] 0 (by omega) rfl hT C (Or.inl ⟨j0, X0⟩) ok0
  rw [show d + (6 - R.2.2.2.2.1) + R.2.2.2.2.1 + 3 + 1 = d + 10 by omega] at go
  refine vx_CV_mono go ?_
  rintro h1 ⟨_, _, _, q⟩
  -- what is found follows in this round
  have snd : ∀ l : List (Nat → Int), (∀ u, u ∈ l → vm_ag (b 0) (vm_hv h) u ∧ vm_so R.2.2.2.2 σ (vm_PA c0 r0 m0 st s ((t : Int) + 1) fr R.2.2.2.2 σ) (vm_NA c0 r0) 0 u ∧ ∀ v, v < R.2.2.2.1 → vz_va (u v)) → ∀ f, (T0 f ∨ ∃ u, u ∈ l ∧ vr_eq 5 f (vm_gl R u)) → vm_mt S st s (t + 1) f := by
    intro l hl f hf
    rcases hf with t | ⟨u, u1, u2⟩
    · rw [eT0] at t
      obtain ⟨i, i1, i2⟩ := t
      exact vm_rd_cg vm_ba_cg _ _ _ i2 (q5 i i1)
    · exact Or.inr ⟨r, hr, by rw [eR]; exact hst, by rw [eR]; exact Or.inl ⟨hO, u, vm_so_sat V.1 hs.2 (hl u u1).2.1, u2⟩⟩
  rcases q with ⟨_, j1, l', l1, l2, _, F, cnt1, rr1, cm1, m1, m2, m3, m4, m5⟩ | ⟨j1, l', l1, F, rr1, cm1, m1, m2, m3⟩
  · refine ⟨F, Or.inl ⟨j1, cnt1, rr1, cm1, ⟨m1, m2, m3, m4, fun i hi => snd l' l1 _ ?_⟩, fun i hi => ?_, fun u hu => ?_⟩⟩
    · exact m5.1 i hi
    · exact m5.2 (rr i) (Or.inl (by rw [eT0]; exact ⟨i, hi, fun _ _ => rfl⟩))
    · have ag0 : vm_ag (b 0) (vm_hv h) u := fun i hi => by
        obtain ⟨e', t, _⟩ := ((C.2.1.2.1 0 (Nat.zero_le _)).2 i).mp hi
        omega
      rcases l2 u ag0 hu with t | ⟨v, v1, v2⟩
      · exact m5.2 _ (Or.inl t)
      · exact m5.2 _ (Or.inr ⟨v, v1, v2⟩)
  · exact ⟨F, Or.inr ⟨j1, ⟨201, rr1, cm1, m1, m2⟩, Or.inl ⟨s, t + 1, rr1, hsN, fun i hi => snd l' l1 _ (m3 i hi), m1.1.2.2.2.2.2⟩⟩⟩
/-- the search of a rule with a total -/
theorem vm_runB (P : vm_pg S st) (hr : r < S.2.2.1) (eR : S.2.2.2.1 r = R) (hst : st R.1.toNat = s) (hO : R.2.2.1.1 ≠ -1) (hsN : s < N) (V : vm_lv S st s 0 c0 r0 m0) (C : vm_cx h o pi 34 R σ b st s 1 fr sd) (al : ∀ v, v < R.2.2.2.1 → vb (b R.2.2.2.2.1) v = true) (hsd : sd = 7) (hT : vx_T 1 625 h) (Q : vm_Qr S st s 0 c0 r0 m0 h cnt rr cm) (j0 : vx_J h 21 12 = 0) (G0 : vr_P 34 5 0 rr h) : vx_CV (d + 10) 109 [.ref 21, .int (vx_i 0)] h (fun h1 => vx_fr vm_Wn h h1 ∧ ((vx_J h1 21 12 = 0 ∧ vm_Qr S st s 0 c0 r0 m0 h1 cnt rr cm ∧ ∃ l, vm_lg R (vm_mt S st s 0) l ∧ vm_XB h cnt rr cm R (vm_kt R) l h1) ∨ (vx_J h1 21 12 ≠ 0 ∧ vx_J h1 34 4 = 201 ∧ vm_en h1 ∧ vm_big S st N))) := by
  have W := P.1.1 r hr
  rw [eR] at W
  obtain ⟨p, m, p1, p2, _, _, m4, _, ov⟩ := W.2.2.2.2.2.2.1
  have p16 : p < 16 := by have := P.2.2.2.1; omega
  have l6 := C.1.1.2.2.2.1
  have hs := vm_surj C.2.1
  have hsr := vm_pg_sr P hr eR hst
  obtain ⟨o69, kt, okt, kt1, _⟩ : (6 ≤ R.2.2.1.1 ∧ R.2.2.1.1 ≤ 9) ∧ ∃ k : Nat, R.2.2.1.2.1 = k ∧ k < m ∧ ∃ v, vz_v (R.2.1 k) v := by
    rcases ov with t | t
    · exact absurd t hO
    · exact t
  have ekt : vm_kt R = kt := by unfold vm_kt; omega
  rw [ekt]
  obtain ⟨q1, q2, q3, q4, q5⟩ := Q
  have low : ∀ j, j < R.2.2.2.2.1 → (R.2.2.2.2.2.1 j = 14 ∨ R.2.2.2.2.2.1 j = 15) → (st (R.2.2.2.2.2.2.1 j).toNat : Int) ≠ s := fun j hj k => by
    have := (hsr j hj k).2.2 (Or.inr hO)
    omega
  -- rows of lower strata are those of the round's beginning
  have E0 : ∀ f, st (f 0).toNat ≠ s → ((∃ i, i < cnt ∧ vr_eq 5 (rr i) f) ↔ ∃ i, i < c0 ∧ vr_eq 5 (r0 i) f) := by
    intro f hf
    constructor
    · rintro ⟨i, i1, i2⟩
      by_cases q : i < c0
      · exact ⟨i, q, vr_eq_trans (vr_eq_symm (q4.2.1 i q).1) i2⟩
      · obtain ⟨_, p', t2, t3⟩ := q4.2.2.1 i (by omega) i1
        exfalso
        apply hf
        rw [← i2 0 (by omega), t2, show ((p' : Nat) : Int).toNat = p' by omega]
        omega
    · rintro ⟨i, i1, i2⟩
      exact ⟨i, by have := q4.1; omega, vr_eq_trans (q4.2.1 i i1).1 i2⟩
  have H := vm_HB (h0 := h) (o := o) (pi := pi) (b := b) (st := st) (sN := s) (tn := 1) (fr := fr) (sd := sd) (c0 := cnt) (r0 := rr) (m0 := cm) p1 p16 o69 okt (by omega) W.2.2.2.2.1 W.2.2.2.2.2.1 q4.2.2.2 (fun j hj k => low j hj (Or.inr k)) hs.1 hsd
  have X0 : vm_XB h cnt rr cm R kt [] h := ⟨vx_fr_refl, q1, q2, 0, rr, fun _ => 0, G0, by omega, fun g hg => absurd hg (by omega), fun u hu => absurd hu List.not_mem_nil⟩
  have ok0 : vm_ok (b 0) (vm_hv h) := fun i hi => by
    obtain ⟨e', t, _⟩ := ((C.2.1.2.1 0 (Nat.zero_le _)).2 i).mp hi
    omega
  have go := vm_walk (d := d + (6 - R.2.2.2.2.1)) H (vm_pg_sl P hr eR) (fun _ _ => by omega) al R.2.2.2.2.1 0 h [] 0 (by omega) rfl hT C (Or.inl ⟨j0, X0⟩) ok0
  rw [show d + (6 - R.2.2.2.2.1) + R.2.2.2.2.1 + 3 + 1 = d + 10 by omega] at go
  refine vx_CV_mono go ?_
  rintro h1 ⟨_, _, _, q⟩
  -- ways are ways over the rows of the round's beginning
  have sat : ∀ u, vm_so R.2.2.2.2 σ (vm_PA cnt rr cm st s 1 fr R.2.2.2.2 σ) (vm_NA cnt rr) 0 u ↔ vm_sat (vm_mt S st s 0) R.2.2.2.2 u := by
    intro u
    have A : vm_so R.2.2.2.2 σ (vm_PA cnt rr cm st s 1 fr R.2.2.2.2 σ) (vm_NA cnt rr) 0 u ↔ vm_sat (fun f => ∃ i, i < cnt ∧ vr_eq 5 (rr i) f) R.2.2.2.2 u := ⟨fun q => vm_so_sat (fun f => Iff.rfl) hs.2 q, fun q => vm_sat_so (fun f => Iff.rfl) hs.1 (fun j hj k => low j hj (Or.inl k)) q⟩
    rw [A]
    have ne : ∀ j, j < R.2.2.2.2.1 → (R.2.2.2.2.2.1 j = 14 ∨ R.2.2.2.2.2.1 j = 15) → ∀ f : Nat → Int, f 0 = R.2.2.2.2.2.2.1 j → ((∃ i, i < cnt ∧ vr_eq 5 (rr i) f) ↔ vm_mt S st s 0 f) := fun j hj k f hf => (E0 f (by
      rw [hf]
      have := low j hj k
      omega)).trans (V.1 f).symm
    exact ⟨fun q => vm_sat_D (fun j hj => ⟨fun k f hf t => (ne j hj (Or.inl k) f hf).mp t, fun k f hf t => (ne j hj (Or.inr k) f hf).mpr t⟩) q, fun q => vm_sat_D (fun j hj => ⟨fun k f hf t => (ne j hj (Or.inl k) f hf).mpr t, fun k f hf t => (ne j hj (Or.inr k) f hf).mp t⟩) q⟩
  rcases q with ⟨_, j1, l', l1, l2, l3, x1⟩ | ⟨j1, l', l1, F, m1, m2, gr, g1, g2⟩
  · refine ⟨x1.1, Or.inl ⟨j1, ⟨x1.2.1, x1.2.2.1, q3, q4, q5⟩, l', ⟨fun u hu => ⟨(sat u).mp (l1 u hu).2.1, (l1 u hu).2.2⟩, fun u hu => ?_, l3 (fun j hj k => (W.1 j hj).2.2.2.2 (Or.inr (Or.inr ⟨k, hO⟩)))⟩, x1⟩⟩
    have ag0 : vm_ag (b 0) (vm_hv h) u := fun i hi => by
      obtain ⟨e', t, _⟩ := ((C.2.1.2.1 0 (Nat.zero_le _)).2 i).mp hi
      omega
    exact l2 u ag0 ((sat u).mpr hu)
  · refine ⟨F, Or.inr ⟨j1, g1.2.1, ⟨cnt, rr, cm, m1, m2⟩, Or.inr ⟨s, r, fun g => if hg : g < 201 then (g2 g hg).choose else fun _ => 0, hsN, hr, by rw [eR]; exact hst, by rw [eR]; exact hO, fun g hg => ?_, fun g g' hg hg' e => ?_⟩⟩⟩
    · dsimp only
      rw [dif_pos hg, eR]
      exact (sat _).mp (l1 _ (g2 g hg).choose_spec.1).2.1
    · dsimp only at e
      rw [dif_pos hg, dif_pos hg', eR, ekt] at e
      exact g1.2.2.2.2.2 g g' hg hg' (vr_eq_trans (g2 g hg).choose_spec.2 (vr_eq_trans e (vr_eq_symm (g2 g' hg').choose_spec.2)))
end
