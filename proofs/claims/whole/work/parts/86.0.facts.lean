/-! A stratum's facts: the class -/
/-- the rows of the strata below, with their rounds -/
def vm_lb (S : vu_S) (st : Nat → Nat) (s cnt : Nat) (rr : Nat → Nat → Int) (cm : Nat → Int) : Prop := (∀ f, vm_ml S st s f ↔ ∃ i, i < cnt ∧ vr_eq 5 (rr i) f) ∧ (∀ i, i < cnt → vm_vr (rr i)) ∧ ∀ i, i < cnt → ∃ s' t' : Nat, st (rr i 0).toNat = s' ∧ cm i = t' ∧ vm_mt S st s' t' (rr i) ∧ ∀ t'', t'' < t' → ¬ vm_mt S st s' t'' (rr i)
/-- in the midst of a stratum's facts -/
def vm_If (S : vu_S) (st : Nat → Nat) (s c0 : Nat) (r0 : Nat → Nat → Int) (m0 : Nat → Int) (i : Nat) (g : ve_H) : Prop := (vx_J g 21 12 = 0 ∧ ∃ cnt rr cm, vm_M g cnt rr cm ∧ vm_id g 25 cnt ∧ cnt ≤ 200 ∧ vm_bs c0 r0 m0 st s 0 cnt rr cm ∧ (∀ j, j < cnt → vm_mt S st s 0 (rr j)) ∧ ∀ j, j < i → st (S.2.2.2.2.2 j 0).toNat = s → ∃ k, k < cnt ∧ vr_eq 5 (rr k) (S.2.2.2.2.2 j)) ∨ (vx_J g 21 12 ≠ 0 ∧ ∃ rr cm, vm_M g 201 rr cm ∧ vm_id g 25 201 ∧ ∀ j, j < 201 → vm_mt S st s 0 (rr j))
theorem vm_o29 : (vx_o 1 625 20 29 ∧ vx_za 29 = 16) ∧ vx_o 1 625 20 30 ∧ vx_za 30 = 16 := by
  refine ⟨⟨by decide +kernel, by decide +kernel⟩, by decide +kernel, by decide +kernel⟩
section
variable {d pi : Nat} {S : vu_S} {st : Nat → Nat} {s N c0 cnt : Nat} {r0 rr : Nat → Nat → Int} {m0 cm : Nat → Int} {h h1 : ve_H}
theorem vc_131 (hT : vx_T 1 625 h) (hw : vx_J h 23 0 = (5 : Nat)) : vx_CV (d + 2) 131 [.ref 22] h (fun h1 => vx_fr (fun a k => (a = 23 ∧ k = 4) ∨ (24 ≤ a ∧ a ≤ 30)) h h1 ∧ vm_M h1 0 rr cm) := by
  have kk := vm_K23
  refine vg_131 hT (vx_CV_mono (vc_172 (d := d) (rr := rr) hT kk.1 hw) ?_)
  rintro h1 ⟨F1, P1⟩ hT1
  refine vx_CV_mono (vc_217 (d := d + 1) (v := -1) vm_o29.1.1 hT1 (by decide)) ?_
  rintro h2 ⟨F2, e2⟩ hT2
  refine vx_CV_mono (vc_217 (d := d + 1) (v := 0) vm_o29.2.1 hT2 (by decide)) ?_
  rintro h3 ⟨F3, e3⟩ _
  refine ⟨vx_fr_trans (vx_fr_mono F1 (fun a k q => by have := kk.2; omega)) (vx_fr_trans (vx_fr_mono F2 (fun a k q => by omega)) (vx_fr_mono F3 (fun a k q => by omega))), ?_, fun i hi => absurd hi (by omega), fun p hp => ⟨?_, ?_⟩⟩
  · exact vr_P_fr (vr_P_fr P1 kk.1 F2 (fun b k q t => by have := kk.2; omega)) kk.1 F3 (fun b k q t => by have := kk.2; omega)
  · show vx_J h3 29 p = -1
    rw [vx_fr_J F3 (by omega)]
    exact e2 p (by rw [vm_o29.1.2]; exact hp)
  · show vx_J h3 30 p = ((0 : Nat) : Int)
    exact e3 p (by rw [vm_o29.2.2]; exact hp)
/-- a row that would be one too many -/
theorem vm_add201 (hT : vx_T 1 625 h) (M : vm_M h 201 rr cm) : vx_CV (d + 2) 113 [.ref 21] h (fun h1 => vx_fr (fun a k => a = 21 ∧ k = 12) h h1 ∧ vx_J h1 21 12 ≠ 0) := by
  have kk := vm_K23
  refine vg_113 hT (vx_CI_mono (vc_174 (d := d) (f := fun k => vx_K h 32 k) vm_o21.1 hT kk.1 M.1 (by rw [vm_o21.2.2.1]; decide) (fun k _ => rfl)) ?_)
  rintro r1 h1 _ ⟨F, q⟩ hT1
  rcases q with ⟨e1, e2, _⟩ | ⟨_, e2, _⟩
  · have c : vx_J h1 23 4 = 201 := by rw [e2]; exact M.1.2.1
    refine ⟨fun _ => ⟨fun t => absurd t (by omega), fun _ h5 e5 _ => ⟨vx_fr_sJ (by rw [e2]; exact vx_fr_refl) e5 ⟨rfl, rfl⟩, by rw [e5, vx_J_eq (by decide)]; decide⟩⟩, fun t => absurd e1 t⟩
  · omega
abbrev vm_Wf (a k : Nat) : Prop := vm_Wa a k ∨ a = 32
theorem vc_106_7 (P : vm_pg S st) (hsN : s < N) (V : vm_lb S st s c0 r0 m0) (opi : vx_o 1 625 5 pi) (Fp : vr_P (pi + 6) 5 S.2.2.2.2.1 S.2.2.2.2.2 h) (c200 : S.2.2.2.2.1 ≤ 200) (h6 : ve_R h 21 6 = some pi) (h9 : vx_J h 21 9 = s) (hcs : vs_cs h pi st) (h10 : vx_J h 21 10 = 0) :
    ∀ (m i : Nat) (g : ve_H) (z : Int) (v2 : Option Value), m = S.2.2.2.2.1 - i → i ≤ S.2.2.2.2.1 → z = i → vx_T 1 625 g → vx_fr vm_Wf h g →
    vm_If S st s c0 r0 m0 i g →
    vx_W (d + 2 + 1) 106 7 [some (.ref 21), some (.int (vx_i z)), v2] [] g (vx_RV (fun h1 => vx_fr vm_Wf h h1 ∧ ((vx_J h1 21 12 = 0 ∧ ∃ cnt rr cm, vm_M h1 cnt rr cm ∧ vm_id h1 25 cnt ∧ cnt ≤ 200 ∧ vm_lv S st s 0 cnt rr cm) ∨ (vx_J h1 21 12 ≠ 0 ∧ vm_en h1 ∧ vm_big S st N)))) := by
  have hW := vm_pg_W P
  have ppo := vx_po opi
  have fK := vu_fK opi
  intro m
  induction m with
  | zero =>
    intro i g z v2 hm hi hz hT F I
    have ei : i = S.2.2.2.2.1 := by omega
    have cF : vx_J g (vx_r pi 5) 4 = S.2.2.2.2.1 := by rw [ppo.2.2.2.2.2.1, vx_fr_J F (by omega)]; exact Fp.2.1
    refine vg_106_7 hT ⟨pi, (vx_fr_R F (by omega)).trans h6, opi, by omega, fun _ => ⟨F, ?_⟩, fun q => absurd q (by omega)⟩
    rcases I with ⟨j0, cnt, rr, cm, M, I, hc, B, q1, q2⟩ | ⟨j1, rr, cm, M, I, q1⟩
    · refine Or.inl ⟨j0, cnt, rr, cm, M, I, hc, fun f => ⟨fun q => ?_, fun ⟨k, k1, k2⟩ => vm_rd_cg vm_ba_cg _ _ _ k2 (q1 k k1)⟩, B.2.2.2, fun k hk => ?_⟩
      · rcases (show vm_ba S st s f from q) with q | ⟨j, j1, j2, j3⟩
        · obtain ⟨k, k1, k2⟩ := (V.1 f).mp q
          exact ⟨k, by have := B.1; omega, vr_eq_trans (B.2.1 k k1).1 k2⟩
        · obtain ⟨k, k1, k2⟩ := q2 j (by omega) (by rw [j2 0 (by omega)]; exact j3)
          exact ⟨k, k1, vr_eq_trans k2 j2⟩
      · by_cases qk : k < c0
        · obtain ⟨s', t', a1, a2, a3, a4⟩ := V.2.2 k qk
          have e := (B.2.1 k qk).1
          have low : vm_ml S st s (r0 k) := (V.1 _).mpr ⟨k, qk, fun _ _ => rfl⟩
          have lt := vm_ml_lt hW s low
          refine ⟨s', t', by rw [e 0 (by omega)]; exact a1, by rw [(B.2.1 k qk).2]; exact a2, vm_rd_cg vm_ba_cg _ _ _ (vr_eq_symm e) a3, fun t'' ht t => a4 t'' ht (vm_rd_cg vm_ba_cg _ _ _ e t), fun t => by omega⟩
        · obtain ⟨b1, p, b2, b3⟩ := B.2.2.1 k (by omega) hk
          exact ⟨s, 0, by rw [b2, show ((p : Nat) : Int).toNat = p by omega]; omega, b1, q1 k hk, fun t'' ht => absurd ht (by omega), fun _ => Nat.le_refl _⟩
    · exact Or.inr ⟨j1, ⟨201, rr, cm, M, I⟩, Or.inl ⟨s, 0, rr, hsN, q1, M.1.2.2.2.2.2⟩⟩
  | succ m ih =>
    intro i g z v2 hm hi hz hT F I
    have hi' : i < S.2.2.2.2.1 := by omega
    have cF : vx_J g (vx_r pi 5) 4 = S.2.2.2.2.1 := by rw [ppo.2.2.2.2.2.1, vx_fr_J F (by omega)]; exact Fp.2.1
    obtain ⟨p, mm, f0, fp, _, _, _, fv, _⟩ := P.1.2 i hi'
    have p16 : p < 16 := by have := P.2.2.2.1; omega
    have e59 : vx_r (vx_r pi 5) 1 = pi + 9 := by rw [ppo.2.2.2.2.2.1]; exact fK.2.1
    have za : vx_za (pi + 9) = 1005 := by
      have := fK.1.2.2
      rw [fK.2.1] at this
      exact this
    have cell : ∀ k, k < 5 → vx_K g (pi + 9) (i * 5 + k) = S.2.2.2.2.2 i k := fun k hk => by
      rw [vx_fr_K F (by omega)]
      have := Fp.2.2.2.1 i k hi' hk
      rw [fK.2.1] at this
      exact this
    have c0' : vx_K g (pi + 9) (z * 5).toNat = p := by
      rw [show (z * 5).toNat = i * 5 + 0 by omega, cell 0 (by omega)]; exact f0
    have est : vx_J g (vx_r pi 2) p = st p := by
      rw [ppo.2.2.1, vx_fr_J F (by omega)]; exact hcs p p16
    refine vg_106_7 hT ⟨pi, (vx_fr_R F (by omega)).trans h6, opi, by omega, fun q => absurd q (by omega), fun _ => ?_⟩
    rw [e59, c0', show ((p : Nat) : Int).toNat = p by omega, est, vx_fr_J F (show ¬ vm_Wf 21 9 by omega), h9, za]
    refine ⟨by omega, by omega, fun q => ?_, fun q => ⟨by omega, ?_⟩⟩
    · refine ih (i + 1) g (z + 1) _ (by omega) (by omega) (by omega) hT F ?_
      rcases I with ⟨j0, cnt, rr, cm, M, I, hc, B, q1, q2⟩ | I
      · refine Or.inl ⟨j0, cnt, rr, cm, M, I, hc, B, q1, fun j hj hs => ?_⟩
        by_cases qj : j = i
        · rw [qj, f0, show ((p : Nat) : Int).toNat = p by omega] at hs
          omega
        · exact q2 j (by omega) hs
      · exact Or.inr I
    · rintro h7 e7 hT7
      rw [show (z * 5).toNat = i * 5 by omega] at e7
      have F7 : vx_fr (fun a _ => a = 32) g h7 := vx_fr_cp vx_fr_refl e7 (fun k _ _ => rfl)
      have g7 : ∀ k, k < 5 → vx_K h7 32 k = S.2.2.2.2.2 i k := fun k hk => by
        rw [e7, vx_K_cp, if_pos (by omega), ← cell k hk]
        congr 1
      have FF7 : vx_fr vm_Wf h h7 := vx_fr_trans F (vx_fr_mono F7 (fun a k q => Or.inr q))
      have fmt : vm_mt S st s 0 (S.2.2.2.2.2 i) := Or.inr ⟨i, hi', fun _ _ => rfl, by rw [f0, show ((p : Nat) : Int).toNat = p by omega]; omega⟩
      rcases I with ⟨j0, cnt, rr, cm, M, I, hc, B, q1, q2⟩ | ⟨j1, rr, cm, M, I, q1⟩
      · refine vx_CV_mono (vm_addA (d := d) (f := S.2.2.2.2.2 i) hT7 (vm_M_fr M F7 (fun a k q => by omega)) (fun i hi => (vx_fr_J F7 (by omega)).trans (I i hi)) hc B g7 f0 p16 (by omega) ⟨⟨p, f0, p16⟩, fun k _ => fv k⟩ ((vx_fr_J FF7 (by omega)).trans h10)) ?_
        rintro h9' ⟨F9, _, cnt1, rr1, cm1, M1, I1, B1, j1, b1, b2, b3⟩ hT9
        have mt1 : ∀ k, k < cnt1 → vm_mt S st s 0 (rr1 k) := fun k hk => by
          rcases b1 k hk with ⟨j, t1, t2⟩ | t
          · exact vm_rd_cg vm_ba_cg _ _ _ (vr_eq_symm t2) (q1 j t1)
          · exact vm_rd_cg vm_ba_cg _ _ _ (vr_eq_symm t) fmt
        refine ih (i + 1) h9' (z + 1) _ (by omega) (by omega) (by omega) hT9 (vx_fr_trans FF7 (vx_fr_mono F9 (fun a k q => Or.inl q))) ?_
        rcases j1 with ⟨j1, c1⟩ | ⟨j1, c1⟩
        · refine Or.inl ⟨j1, cnt1, rr1, cm1, M1, I1, c1, B1, mt1, fun j hj hs => ?_⟩
          by_cases qj : j = i
          · rw [qj]; exact b3
          · obtain ⟨k, k1, k2⟩ := q2 j (by omega) hs
            obtain ⟨k', k3, k4⟩ := b2 k k1
            exact ⟨k', k3, vr_eq_trans k4 k2⟩
        · subst c1
          exact Or.inr ⟨j1, rr1, cm1, M1, I1, mt1⟩
      · refine vx_CV_mono (vm_add201 (d := d) hT7 (vm_M_fr M F7 (fun a k q => by omega))) ?_
        rintro h9' ⟨F9, j9⟩ hT9
        have F79 : vx_fr (fun a k => a = 32 ∨ (a = 21 ∧ k = 12)) g h9' := vx_fr_trans (vx_fr_mono F7 (fun a k q => Or.inl q)) (vx_fr_mono F9 (fun a k q => Or.inr q))
        refine ih (i + 1) h9' (z + 1) _ (by omega) (by omega) (by omega) hT9 (vx_fr_trans F (vx_fr_mono F79 (fun a k q => by omega))) (Or.inr ⟨j9, rr, cm, vm_M_fr M F79 (fun a k q => by omega), fun i hi => (vx_fr_J F79 (by omega)).trans (I i hi), q1⟩)
theorem vc_106 (P : vm_pg S st) (hsN : s < N) (V : vm_lb S st s c0 r0 m0) (opi : vx_o 1 625 5 pi) (Fp : vr_P (pi + 6) 5 S.2.2.2.2.1 S.2.2.2.2.2 h) (c200 : S.2.2.2.2.1 ≤ 200) (h6 : ve_R h 21 6 = some pi) (h9 : vx_J h 21 9 = s) (hcs : vs_cs h pi st) (hT : vx_T 1 625 h) (M : vm_M h c0 r0 m0) (I : vm_id h 25 c0) (hc : c0 ≤ 200) (j0 : vx_J h 21 12 = 0) : vx_CV (d + 3) 106 [.ref 21] h (fun h1 => vx_fr (fun a k => vm_Wf a k ∨ (a = 21 ∧ k = 10)) h h1 ∧ ((vx_J h1 21 12 = 0 ∧ ∃ cnt rr cm, vm_M h1 cnt rr cm ∧ vm_id h1 25 cnt ∧ cnt ≤ 200 ∧ vm_lv S st s 0 cnt rr cm) ∨ (vx_J h1 21 12 ≠ 0 ∧ vm_en h1 ∧ vm_big S st N))) := by
  refine vg_106 hT (fun g1 e1 hT1 => ?_)
  have F1 : vx_fr (fun a k => a = 21 ∧ k = 10) h g1 := vx_fr_sJ vx_fr_refl e1 ⟨rfl, rfl⟩
  have ppo := vx_po opi
  have fK := vu_fK opi
  have Fp1 : vr_P (pi + 6) 5 S.2.2.2.2.1 S.2.2.2.2.2 g1 := vr_P_fr Fp fK.1 F1 (fun b k q t => by have := fK.2; omega)
  refine vx_mono (vc_106_7 (d := d) (h := g1) P hsN V opi Fp1 c200 ((vx_fr_R F1 (by omega)).trans h6) ((vx_fr_J F1 (by omega)).trans h9) (fun p hp => (vx_fr_J F1 (by omega)).trans (hcs p hp)) (by rw [e1, vx_J_eq (by decide)]) S.2.2.2.2.1 0 g1 0 none (by omega) (by omega) rfl hT1 vx_fr_refl (Or.inl ⟨(vx_fr_J F1 (by omega)).trans j0, c0, r0, m0, vm_M_fr M F1 (fun a k q => by omega), fun i hi => (vx_fr_J F1 (by omega)).trans (I i hi), hc, vm_bs_st V.2.1, fun j hj => Or.inl ((V.1 _).mpr ⟨j, hj, fun _ _ => rfl⟩), fun j hj => absurd hj (by omega)⟩)) ?_
  rintro ot h1 ⟨eo, F, q⟩
  exact ⟨eo, vx_fr_trans (vx_fr_mono F1 (fun a k q => Or.inr q)) (vx_fr_mono F (fun a k q => Or.inl q)), q⟩
end
