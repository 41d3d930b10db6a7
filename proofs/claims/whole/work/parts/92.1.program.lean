/-! program: the pair -/
section
variable {ts : vy_T} {S S' : vu_S} {st : Nat → Nat}
theorem vu_pl_c (ok : vy_ok ts) (ok2 : vy_ok2 ts) (ok3 : vy_ok3 ts) : ∀ (m i : Nat) (S : vu_S), 5 * S.2.2.2.2.1 ≤ i → i ≤ ts.length → vu_pl ts m i S = .inr S' → 5 * S'.2.2.2.2.1 ≤ ts.length
  | 0, i, S, w, w2, e => by unfold vu_pl at e; injection e with e; rw [← e]; omega
  | m + 1, i, S, w, w2, e => by
    rw [vu_pl_s] at e
    split at e
    · injection e with e; rw [← e]; omega
    · split at e
      · exact absurd e (by simp)
      · rename_i q hq
        obtain ⟨j, Pd', F', K⟩ := q
        have t := vu_cs_w ok ok2 ok3 hq
        refine vu_pl_c ok ok2 ok3 m j (vu_nx S (j, Pd', F', K)) ?_ t.2.1 e
        cases K with
        | inl f =>
          show 5 * (vu_fa S.2.2.2.2.1 S.2.2.2.2.2 (vu_row f.1 f.2)).1 ≤ j
          by_cases q : ∃ i, i < S.2.2.2.2.1 ∧ vr_eq 5 (S.2.2.2.2.2 i) (vu_row f.1 f.2)
          · rw [vu_fa_t q]; show 5 * S.2.2.2.2.1 ≤ j; omega
          · rw [vu_fa_f (fun i hi u => q ⟨i, hi, u⟩)]; show 5 * (S.2.2.2.2.1 + 1) ≤ j; omega
        | inr R => show 5 * S.2.2.2.2.1 ≤ j; omega
theorem vu_prog_c (ok : vy_ok ts) (ok2 : vy_ok2 ts) (ok3 : vy_ok3 ts) (e : vu_prog ts = .inr S) : S.2.2.2.2.1 ≤ 200 := by
  unfold vu_prog at e
  split at e
  · exact absurd e (by simp)
  · rename_i S1 h1
    split at e
    · exact absurd e (by simp)
    · split at e
      · exact absurd e (by simp)
      · injection e with e
        rw [← e]
        have t := vu_pl_c ok ok2 ok3 600 0 vu_S0 (by show 5 * 0 ≤ 0; omega) (by omega) h1
        have := ok.2.1
        omega
theorem vs_ns_17 (h : ∀ p, p < 16 → st p ≤ 16) : ∀ n, n ≤ 16 → vs_ns st n ≤ 17
  | 0, _ => by show 0 ≤ 17; omega
  | n + 1, hn => by
    have a := vs_ns_17 h n (by omega)
    have b := h n (by omega)
    show max (vs_ns st n) (st n + 1) ≤ 17
    omega
theorem vi_E_refl : vi_E S S := ⟨rfl, rfl, rfl, rfl, fun f => Iff.rfl⟩
end
def vi_Wg (pj a k : Nat) : Prop := vu_SQ pj a k ∨ (a = 2 ∧ k = 4) ∨ (a = 1 ∧ (k = 11 ∨ k = 12))
def vi_Wh (pj a k : Nat) : Prop := vi_Wg pj a k ∨ (a = 1 ∧ (k = 3 ∨ k = 4 ∨ k = 8))
theorem vi_Wg_in {pj a k : Nat} (q : vi_Wg pj a k) : (a = 1 ∧ (k = 11 ∨ k = 12)) ∨ (2 ≤ a ∧ a ≤ 20 ∧ a ≠ 3) ∨ (pj ≤ a ∧ a < pj + 289 ∧ (a ≠ pj + 6 ∨ k ≠ 0)) := by
  unfold vi_Wg at q
  omega
theorem vi_Wh_in {pj a k : Nat} (q : vi_Wh pj a k) : (a = 1 ∧ (k = 3 ∨ k = 4 ∨ k = 8 ∨ k = 11 ∨ k = 12)) ∨ (2 ≤ a ∧ a ≤ 20 ∧ a ≠ 3) ∨ (pj ≤ a ∧ a < pj + 289 ∧ (a ≠ pj + 6 ∨ k ≠ 0)) := by
  rcases q with q | q
  · have t := vi_Wg_in q
    clear q
    omega
  · omega
/-- how the class's program ends -/
def vi_gP (ts : vy_T) (pi pj : Nat) (h : ve_H) (r : Int) (h1 : ve_H) : Prop := ∃ S, vu_prog ts = .inr S ∧ r = S.2.2.1 ∧ vx_fr (vi_Wh pj) h h1 ∧ vx_J h1 2 4 = 0 ∧ vx_J h1 1 11 = S.2.1.1 ∧ vx_J h1 1 12 = S.2.1.2 ∧ vx_J h1 1 8 = 0 ∧ ve_R h1 1 4 = some pi ∧ vu_wS S ∧ vr_P (pj + 6) 5 S.2.2.2.2.1 S.2.2.2.2.2 h1 ∧ ∃ s, vs_lst s S.2.2.1 S.2.2.2.1 ∧ (∀ p, p < 16 → s p ≤ 16) ∧ vi_C h1 pj S s
def vi_gX (ts : vy_T) (pj : Nat) (h : ve_H) (kx : Nat) (h1 : ve_H) : Prop := kx = 10 ∧ ∃ F, vu_prog ts = .inl F ∧ vx_fq (vi_Wg pj) h h1 ∧ vx_J h1 2 4 = 0 ∧ vx_J h1 1 11 = F.1 ∧ vx_J h1 1 12 = F.2
section
variable {d L n pi pj : Nat} {c : Nat → Int} {xs : Nat → Int32} {h : ve_H}
theorem vc_2 (hT : vx_T 1 625 h) (X : vt_tx h n c) (r3 : ve_R h 1 3 = some pi) (r4 : ve_R h 1 4 = some pj) (oi : vx_o 1 625 5 pi) (oj : vx_o 1 625 5 pj) (hw : vx_J h (pj + 6) 0 = (5 : Nat)) (rk : ∀ h1, ve_n h1 = ve_n h → ve_u h1 = ve_u h → ve_rk h1 6 = true) : vx_CX (d + 8) 2 [.ref 1] h (vi_gP (vt_toks c n 600 0) pi pj h) (vi_gX (vt_toks c n 600 0) pj h) := by
  have ppo := (vx_po oj).2.2.2.2.2.2
  have fK := vu_fK oj
  refine vg_2 (d := d + 7) hT ⟨pj, r4, oj, vx_CV_mono (vc_145 (d := d) hT oj X hw) ?_⟩
  rintro h2 ⟨F2, E2⟩ hT2
  refine vx_CV_mono (vc_12 (d := d + 6) hT2) ?_
  rintro h3 ⟨F3, k24, k11, k12⟩ hT3
  have G : vx_fr (vi_Wg pj) h h3 := vx_fr_trans (vx_fr_mono F2 (fun a k q => Or.inl q)) (vx_fr_mono F3 (fun a k q => Or.inr q))
  have n1 : ∀ k, k ≠ 11 → k ≠ 12 → ¬ vi_Wg pj 1 k := fun k h1 h2 q => by
    have t := vi_Wg_in q
    clear q
    omega
  cases eQ : vu_prog (vt_toks c n 600 0) with
  | inl F =>
    rw [eQ] at E2
    obtain ⟨F0, cf⟩ := E2
    have e11 : vx_J h3 1 11 = F.1 := k11.trans cf.1
    refine ⟨fun q => absurd (e11.symm.trans q) F0, fun _ => ⟨rk h3 G.1.1 G.1.2, fun h10 e10 _ => ⟨rfl, F, eQ, vx_fq_r G (vx_fq_new e10), ?_, ?_, ?_⟩⟩⟩
    · rw [e10]; exact k24
    · rw [e10]; exact e11
    · rw [e10]; exact k12.trans cf.2
  | inr S =>
    rw [eQ] at E2
    obtain ⟨cf, z, wS, cg, fP, s, l1, l2, cs, ns⟩ := E2
    have e11 : vx_J h3 1 11 = S.2.1.1 := k11.trans cf.1
    refine ⟨fun _ => ⟨pi, (vx_fr_R G (n1 3 (by decide) (by decide))).trans r3, oi, pj, (vx_fr_R G (n1 4 (by decide) (by decide))).trans r4, oj, ?_⟩, fun q => absurd (e11.trans z) q⟩
    rintro h7 e7 _ h8 e8 _ h9 e9 _
    have F9 : vx_fr (fun a k => a = 1 ∧ (k = 3 ∨ k = 4 ∨ k = 8)) h3 h9 := vx_fr_sJ (vx_fr_sR (vx_fr_sR vx_fr_refl e7 (by omega)) e8 (by omega)) e9 (by omega)
    have Fz : vx_fr (fun a k => (a = 2 ∧ k = 4) ∨ (a = 1 ∧ (k = 3 ∨ k = 4 ∨ k = 8 ∨ k = 11 ∨ k = 12))) h2 h9 := vx_fr_trans (vx_fr_mono F3 (fun a k q => by omega)) (vx_fr_mono F9 (fun a k q => by omega))
    have cg9 := vu_cg_fr cg Fz ⟨⟨by omega, by omega⟩, fun k => ⟨by omega, by omega⟩, fun a k _ _ => by omega⟩
    refine ⟨S, eQ, cg9.2.1, vx_fr_trans (vx_fr_mono G (fun a k q => Or.inl q)) (vx_fr_mono F9 (fun a k q => Or.inr q)), (vx_fr_J F9 (by omega)).trans k24, (vx_fr_J F9 (by omega)).trans e11, (vx_fr_J F9 (by omega)).trans (k12.trans cf.2), by rw [e9, vx_J_eq (by decide)], ?_, wS, vi_F_f oj fP Fz ⟨⟨by omega, by omega⟩, fun a k _ _ => by omega⟩, s, l1, l2, ?_, cg9, fun p hp => (vx_fr_J Fz (by omega)).trans (cs p hp), (vx_fr_J Fz (by omega)).trans ns⟩
    · rw [e9]
      show ve_R h8 1 4 = _
      rw [e8, ve_R_sR, if_pos ⟨rfl, rfl⟩]
    · rw [e9]
      show ve_R h8 1 3 = _
      rw [e8, ve_R_sR, if_neg (by omega), e7, ve_R_sR, if_pos ⟨rfl, rfl⟩]
theorem vu_SV_ge {sd a k : Nat} (sd2 : sd < 2) (q : vu_SV sd a k) : 625 ≤ a ∧ (a = 625 → k ≠ 38 ∧ k ≠ 39 ∧ k ≠ 36 ∧ k ≠ 37) ∧ a ≠ 626 ∧ (a < 650 ∨ 654 < a) ∧ a ≤ 664 := by
  unfold vu_SV vu_SU vu_SR vu_Sk at q
  omega
theorem vj_1_ok {h h1 g h2 : ve_H} {sd sd' aa ab m ac : Nat} {S : vu_S} {s : Nat → Nat} {ar : Nat → Nat → Int} {o : Nat → Nat} (hsd : sd < 2) (hs : sd + sd' = 1) (pp : (pi = 39 ∧ pj = 328) ∨ (pi = 328 ∧ pj = 39)) (A : vi_A h aa m ac ar o) (B : vi_B h aa ab) (W : vi_W h) (sS : vi_S h)
    (F1 : vx_fr (vi_Wh pj) h h1) (k24 : vx_J h1 2 4 = 0) (k11 : vx_J h1 1 11 = S.2.1.1) (k12 : vx_J h1 1 12 = S.2.1.2) (k8 : vx_J h1 1 8 = 0) (r4 : ve_R h1 1 4 = some pi) (wS : vu_wS S) (fP : vr_P (pj + 6) 5 S.2.2.2.2.1 S.2.2.2.2.2 h1) (l1 : vs_lst s S.2.2.1 S.2.2.2.1) (l2 : ∀ p, p < 16 → s p ≤ 16) (C : vi_C h1 pj S s)
    (Fg : vx_fr (fun a _ => a = 672) h1 g) (F2 : vx_fr (vu_SV sd') g h2) (b2 : vx_J h2 625 2 = 0) (b11 : vx_J h2 625 11 = sd') (b31 : vx_J h2 625 31 = 0) (rE : vu_rE sd' (.inr S) h2) (w3 : vu_w3 S) (nz : vu_nz S.1) (c200 : S.2.2.2.2.1 ≤ 200) : vi_I h2 := by
  have oj := C.2.1.1.1
  obtain ⟨rf, z, rg, j647, rfs, s2, l3, rs⟩ := rE
  have sv : ∀ a k, a < 625 ∨ a = 626 ∨ (a = 625 ∧ (k = 38 ∨ k = 39 ∨ k = 36 ∨ k = 37)) ∨ (650 ≤ a ∧ a ≤ 654) → ¬ vu_SV sd' a k := fun a k ha q => by
    have t := vu_SV_ge (by omega) q
    clear q
    omega
  have FZ : vx_fr (fun a k => a = 672 ∨ vu_SV sd' a k) h1 h2 := vx_fr_trans (vx_fr_mono Fg (fun a k q => Or.inl q)) (vx_fr_mono F2 (fun a k q => Or.inr q))
  have nZ : ∀ a k, a < 625 ∨ a = 626 ∨ (a = 625 ∧ (k = 38 ∨ k = 39 ∨ k = 36 ∨ k = 37)) ∨ (650 ≤ a ∧ a ≤ 654) → ¬ (a = 672 ∨ vu_SV sd' a k) := fun a k ha q => by
    rcases q with q | q
    · omega
    · exact sv a k ha q
  have nZ1 : ∀ a k, a < 625 → ¬ (a = 672 ∨ vu_SV sd' a k) := fun a k ha => nZ a k (Or.inl ha)
  have C2 := vi_C_f C FZ ⟨nZ1 _ _ (by omega), ⟨nZ1 _ _ (by omega), nZ1 _ _ (by omega), nZ1 _ _ (by omega)⟩, fun k => ⟨nZ1 _ _ (by omega), nZ1 _ _ (by omega), nZ1 _ _ (by omega)⟩, fun a k h1 h2 => nZ1 _ _ (by omega)⟩
  have fP2 := vi_F_f oj fP FZ ⟨⟨nZ1 _ _ (by omega), nZ1 _ _ (by omega)⟩, fun a k h1 h2 => nZ1 _ _ (by omega)⟩
  have es : ∀ p, p < 16 → s2 p = s p := fun p hp => by
    have a := l1.2 s2 l3.1 p hp
    have b := l3.2 s l1.1 p hp
    omega
  have pg : vm_pg S s := ⟨wS, l1.1, l2, C.2.1.1.2.2.1, C.2.1.2.2.1⟩
  have nh : ∀ a k, (a = 1 ∧ (5 ≤ k ∧ k ≤ 7 ∨ k = 9 ∨ k = 10)) ∨ (21 ≤ a ∧ a < 39) ∨ 617 ≤ a → ¬ vi_Wh pj a k := fun a k ha q => by
    have t := vi_Wh_in q
    clear q
    omega
  have FA : vx_fr (fun a k => vi_Wh pj a k ∨ a = 672 ∨ vu_SV sd' a k) h h2 := vx_fr_trans (vx_fr_mono F1 (fun a k q => Or.inl q)) (vx_fr_mono FZ (fun a k q => Or.inr q))
  have nA : ∀ a k, (a = 1 ∧ (5 ≤ k ∧ k ≤ 7 ∨ k = 9 ∨ k = 10)) ∨ (21 ≤ a ∧ a < 39) ∨ (617 ≤ a ∧ a < 625) ∨ (a = 625 ∧ (k = 38 ∨ k = 39 ∨ k = 36 ∨ k = 37)) ∨ a = 653 → ¬ (vi_Wh pj a k ∨ a = 672 ∨ vu_SV sd' a k) := fun a k ha q => by
    rcases q with q | q
    · exact nh a k (by omega) q
    · exact nZ a k (by omega) q
  have QA := vx_fq_fr FA
  have a2 := A.2.1
  obtain ⟨s1, s2', s3, s4, s5, s6, s7, s8⟩ := sS
  have u : ∀ k, vx_J h2 1 k = vx_J h1 1 k := fun k => vx_fr_J FZ (nZ1 _ _ (by omega))
  refine ⟨⟨pj, pi, sd', S, S, s, ?_, (vx_fr_R FZ (nZ1 _ _ (by omega))).trans r4, by omega, ⟨pg, pg, w3, nz, vs_ns_17 l2 _ pg.2.2.2.1⟩, fun q => absurd ((u 8).symm.trans q) (by rw [k8]; decide)⟩, ⟨aa, ab, m, ac, ar, o, vi_A_q A QA ⟨⟨nA _ _ (by omega), nA _ _ (by omega)⟩, fun a k h1 h2 => nA _ _ (by omega)⟩ (vx_fq_J QA (nA _ _ (by omega))) (vx_fq_J QA (nA _ _ (by omega))) (fun k => vx_fq_K QA (nA _ _ (by omega))), (vx_fq_R QA (nA _ _ (by omega))).trans B.1, B.2⟩, ⟨0, fun _ => 0, ⟨?_, by omega, fun i hi => absurd hi (by omega)⟩, b2, by omega, fun i hi => absurd hi (by omega)⟩, ?_, ?_⟩
  · refine ⟨C2.1, C2.2.1, C2.2.2.1, fP2, c200, C2.2.2.2, l2, ⟨⟨rg.1, b11⟩, rg.2.2.1, rg.2.2.2.2, fun p hp => ?_, j647, c200, rfs, fP2.2.2.2.2.2⟩, vi_E_refl⟩
    rw [rs p hp, es p hp]
  · rw [vx_fr_J FZ (nZ1 _ _ (by omega))]; exact k24
  · obtain ⟨w1, w2, w4, w5, w6, w7⟩ := W
    have nW : ∀ a, a = 45 ∨ a = 334 → ¬ (vi_Wh pj a 0 ∨ a = 672 ∨ vu_SV sd' a 0) := fun a ha q => by
      rcases q with q | q
      · have t := vi_Wh_in q
        clear q
        omega
      · exact nZ a 0 (by omega) q
    exact ⟨(vx_fq_J QA (nA _ _ (by omega))).trans w1, (vx_fq_J QA (nA _ _ (by omega))).trans w2, (vx_fq_J QA (nA _ _ (by omega))).trans w4, (vx_fq_J QA (nA _ _ (by omega))).trans w5, (vx_fq_J QA (nW _ (by omega))).trans w6, (vx_fq_J QA (nW _ (by omega))).trans w7⟩
  · have e8 : vx_J h2 1 8 = 0 := (u 8).trans k8
    have e9 : vx_J h2 1 9 = vx_J h 1 9 := vx_fq_J QA (nA _ _ (by omega))
    have e10 : vx_J h2 1 10 = vx_J h 1 10 := vx_fq_J QA (nA _ _ (by omega))
    refine ⟨Or.inl e8, by rw [b31, e8], by rw [e9]; exact s3, ?_, by rw [e10]; exact s5, ?_, ?_, ?_⟩
    · rw [e9, vx_fq_J QA (nA _ _ (by omega))]; exact s4
    · rw [e10, vx_fq_J QA (nA _ _ (by omega))]; exact s6
    · rw [rf.1, u 11]; exact k11.symm
    · rw [rf.2, u 12]; exact k12.symm
theorem vu_SV_r {sd sd' : Nat} (hs : sd + sd' = 1) : vi_nR (vu_SV sd') sd := by
  unfold vi_nR vu_SV vu_SU vu_SR vu_Sk
  refine ⟨by omega, fun k h1 h2 => by omega, fun k h1 h2 => ⟨by omega, by omega, by omega, by omega, by omega, by omega⟩, fun k h1 h2 => ⟨by omega, by omega⟩, fun k h1 h2 => ⟨by omega, by omega, by omega, by omega⟩, fun k h1 h2 => ⟨by omega, by omega⟩⟩
theorem vu_SV_f {sd sd' : Nat} (hs : sd + sd' = 1) : vi_nF (vu_SV sd') sd := by
  unfold vi_nF vu_SV vu_SU vu_SR vu_Sk
  refine ⟨⟨by omega, by omega⟩, fun k h1 h2 => ⟨by omega, by omega⟩, fun k h1 h2 => by omega, fun k h1 h2 => by omega⟩
theorem vi_g0 {sd' a k : Nat} (sd2 : sd' < 2) (q : vi_Wg pj a k ∨ vu_SV sd' a k) : ((a = 1 ∧ (k = 11 ∨ k = 12)) ∨ (2 ≤ a ∧ a ≤ 20 ∧ a ≠ 3) ∨ (pj ≤ a ∧ a < pj + 289 ∧ (a ≠ pj + 6 ∨ k ≠ 0))) ∨ (625 ≤ a ∧ (a = 625 → k ≠ 38 ∧ k ≠ 39 ∧ k ≠ 36 ∧ k ≠ 37) ∧ a ≠ 626 ∧ (a < 650 ∨ 654 < a)) := by
  rcases q with q | q
  · exact Or.inl (vi_Wg_in q)
  · have t := vu_SV_ge sd2 q
    exact Or.inr ⟨t.1, t.2.1, t.2.2.1, t.2.2.2.1⟩
theorem vi_g1 {sd' : Nat} (sd2 : sd' < 2) (hj : pj = 39 ∨ pj = 328) : vi_ex (fun a k => vi_Wg pj a k ∨ vu_SV sd' a k) := by
  refine ⟨⟨fun q => ?_, fun q => ?_, fun q => ?_⟩, ⟨fun q => ?_, fun q => ?_, fun q => ?_, fun q => ?_, fun q => ?_, fun q => ?_⟩, fun a k q => ?_, fun a k h1 h2 q => ?_, fun q => ?_⟩ <;> have t := vi_g0 sd2 q <;> clear q <;> omega
theorem vi_g2 {sd' : Nat} (sd2 : sd' < 2) (hj : pj = 39 ∨ pj = 328) : vi_eA (fun a k => vi_Wg pj a k ∨ vu_SV sd' a k) := by
  refine ⟨⟨fun q => ?_, fun q => ?_, fun q => ?_, fun q => ?_⟩, fun a k h1 h2 q => ?_, ⟨fun q => ?_, fun q => ?_, fun q => ?_⟩, fun k q => ?_⟩ <;> have t := vi_g0 sd2 q <;> clear q <;> omega
theorem vi_g3 {sd' : Nat} (sd2 : sd' < 2) (pp : (pi = 39 ∧ pj = 328) ∨ (pi = 328 ∧ pj = 39)) : ∀ a k, pi ≤ a → a < pi + 289 → ¬ (vi_Wg pj a k ∨ vu_SV sd' a k) := fun a k h1 h2 q => by
  have t := vi_g0 sd2 q
  clear q
  omega
theorem vi_Wg_lo {a k : Nat} (hj : pj = 39 ∨ pj = 328) (q : vi_Wg pj a k) : a < 625 := by
  have t := vi_Wg_in q
  clear q
  omega
theorem vj_1_no {h h1 h2 : ve_H} {sd sd' : Nat} {F : vy_F} (hs : sd + sd' = 1) (I : vi_I h) (r3 : ve_R h 1 3 = some pi) (r4 : ve_R h 1 4 = some pj) (h11 : vx_J h 625 11 = sd)
    (F1 : vx_fq (vi_Wg pj) h h1) (k24 : vx_J h1 2 4 = 0) (k11 : vx_J h1 1 11 = F.1) (k12 : vx_J h1 1 12 = F.2)
    (F2 : vx_fr (vu_SV sd') h1 h2) (b2 : vx_J h2 625 2 = 0) (b11 : vx_J h2 625 11 = sd) (b31 : vx_J h2 625 31 = vx_J h1 625 31) (b32 : vx_J h2 625 32 = vx_J h1 625 32) (rf : vy_rf h2 F) : vi_I h2 := by
  obtain ⟨⟨pi', pj', sd0, S, S', st, P, r4', pp, pg, M⟩, ⟨aa, ab, n, ac, ar, o, A, B⟩, ⟨tn, c, T⟩, W, s⟩ := I
  have e1 : pi' = pi := Option.some.inj (P.1.symm.trans r3)
  have e2 : pj' = pj := Option.some.inj (r4'.symm.trans r4)
  have e3 : sd0 = sd := by
    have := P.2.2.2.2.2.2.2.1.1.2
    omega
  subst e1 e2 e3
  have sd2 : sd' < 2 := by omega
  have hj : pj' = 39 ∨ pj' = 328 := by
    rcases pp with t | t
    · exact Or.inr t.2
    · exact Or.inl t.2
  have f : vx_fq (fun a k => vi_Wg pj' a k ∨ vu_SV sd' a k) h h2 := vx_fq_l (vx_fq_mono F1 (fun a k q => Or.inl q)) (vx_fr_mono F2 (fun a k q => Or.inr q))
  have x := vi_g1 sd2 hj
  have y := vi_g2 sd2 hj
  have CT := vi_nCT x.1.1 (vi_g3 sd2 pp)
  have lo : ∀ a k, vi_Wg pj' a k → a < 625 ∨ 664 < a := fun a k q => Or.inl (vi_Wg_lo hj q)
  have ng : ∀ k, ¬ vi_Wg pj' 625 k := fun k q => absurd (vi_Wg_lo hj q) (by decide)
  have nv : ∀ a k, a < 625 → ¬ vu_SV sd' a k := fun a k ha q => absurd (vu_SV_ge sd2 q).1 (Nat.not_le.mpr ha)
  have j31 : vx_J h2 625 31 = vx_J h 625 31 := b31.trans (vx_fq_J F1 (ng _))
  have j32 : vx_J h2 625 32 = vx_J h 625 32 := b32.trans (vx_fq_J F1 (ng _))
  have u1 : ∀ k, vx_J h2 1 k = vx_J h1 1 k := fun k => vx_fr_J F2 (nv 1 k (by decide))
  have u8 : vx_J h2 1 8 = vx_J h 1 8 := (u1 8).trans (vx_fq_J F1 (fun q => by
    have t := vi_Wg_in q
    clear q
    omega))
  have u9 : vx_J h2 1 9 = vx_J h 1 9 := vx_fq_J f x.1.2.2
  have u10 : vx_J h2 1 10 = vx_J h 1 10 := vx_fq_J f y.1.2.2.2
  obtain ⟨s1, s2, s3, s4, s5, s6, s7, s8⟩ := s
  have AB := vi_A_e A B f y
  refine ⟨⟨pi', pj', sd0, S, S', st, vi_P_q P pg.2.1.2.2.2.2 f (b11.trans h11.symm) CT.1 CT.2 (vi_nR_or lo (vu_SV_r hs)) (vi_nF_or lo (vu_SV_f hs)), (vx_fq_R f x.1.2.1).trans r4', pp, pg, fun q => vi_M_q (M (u8.symm.trans q)) f j32 x.2.2.1 x.2.2.2.1⟩, ⟨aa, ab, n, ac, ar, o, AB⟩, ⟨0, fun _ => 0, ⟨(vx_fr_J F2 (nv 2 4 (by decide))).trans k24, Nat.zero_le _, fun i hi => absurd hi (Nat.not_lt_zero i)⟩, b2, Nat.zero_le _, fun i hi => absurd hi (Nat.not_lt_zero i)⟩, vi_W_q W f x.2.1, ?_⟩
  refine ⟨by rw [u8]; exact s1, by rw [j31, u8]; exact s2, by rw [u9]; exact s3, ?_, by rw [u10]; exact s5, ?_, ?_, ?_⟩
  · rw [u9, vx_fq_J f x.2.2.2.2]; exact s4
  · rw [u10, vx_fq_J f y.2.2.1.1]; exact s6
  · rw [rf.1, u1 11]; exact k11.symm
  · rw [rf.2, u1 12]; exact k12.symm
theorem vj_1 (hT : vx_TL L xs h) (I : vi_I h) (rk : ve_rk h 6 = true) : vl_X (d + 9) L xs (vi_J h) 209 62 [] h := by
  have I0 := I
  obtain ⟨⟨pi, pj, sd, S0, S', st, P, r4, pp, pg, M⟩, ⟨aa, ab, m, ac, ar, o, A, B⟩, ⟨n, c, T⟩, W, s⟩ := I
  have sd2 := P.2.2.2.2.2.2.2.1.1.1.1
  have h11 := P.2.2.2.2.2.2.2.1.1.2
  obtain ⟨sd', hs⟩ : ∃ sd', sd + sd' = 1 := ⟨1 - sd, by omega⟩
  obtain ⟨ok, ok2, ok3⟩ := vt_toks_ok T.1.2.1 (fun j hj => (T.1.2.2 j hj).2)
  have ok4 := vt_toks_nz (fun j hj => (T.1.2.2 j hj).2) 600 0
  have oi : vx_o 1 625 5 pi := P.2.1.1.1
  have o39 : vx_o 1 625 5 39 := ⟨by omega, by decide +kernel⟩
  have o328 : vx_o 1 625 5 328 := ⟨by omega, by decide +kernel⟩
  have oj : vx_o 1 625 5 pj := by
    rcases pp with ⟨_, t⟩ | ⟨_, t⟩
    · rw [t]; exact o328
    · rw [t]; exact o39
  have hw : vx_J h (pj + 6) 0 = (5 : Nat) := by
    rcases pp with ⟨_, t⟩ | ⟨_, t⟩
    · rw [t]; exact W.2.2.2.2.2
    · rw [t]; exact W.2.2.2.2.1
  have REF : ∀ g, vx_TL L xs g → (∀ k, vx_J g 625 k = vx_J h 625 k) → (∀ k, vx_J g 626 k = vx_J h 626 k) → vx_CI (d + 9) 62 [.ref 625] g (fun r h1 => vx_fr (vu_SV sd') g h1 ∧ vx_J h1 625 2 = 0 ∧ vu_rE sd' (vu_prog (vt_toks c n 600 0)) h1 ∧ vu_rO sd sd' (vu_prog (vt_toks c n 600 0)) g r h1) := by
    intro g Tg e1 e2
    exact vc_62 (d := d + 1) (vx_TLT Tg) ⟨(e1 2).trans T.2.1, T.2.2.1, fun i hi => ⟨(e2 i).trans (T.2.2.2 i hi).1, (T.2.2.2 i hi).2⟩⟩ ((e1 11).trans h11) hs
  refine vg_209 (d := d + 8) hT.1 (vx_CX_mono (vc_2 (d := d) (vx_TLC hT) T.1 P.1 r4 oi oj hw (fun h1 e1 e2 => vx_rk_e rk e1 e2)) ?_ ?_)
  · rintro r h1 hr ⟨S, eQ, er, F1, k24, k11, k12, k8, rr4, wS, fP, s', l1, l2, C⟩ _ g eg _ Tg
    have Fg : vx_fr (fun a _ => a = 672) h1 g := vx_fr_sK vx_fr_refl eg rfl
    have kg : vx_K g 672 0 = r := by rw [eg, vx_K_eq (show vx_rL r by omega)]
    have e6 : ∀ a k, 625 ≤ a → a ≠ 672 → vx_J g a k = vx_J h a k := fun a k ha hb => (vx_fr_J Fg (by omega)).trans (vx_fr_J F1 (fun q => by
      have t := vi_Wh_in q
      clear q
      omega))
    refine vx_CI_mono (REF g Tg (fun k => e6 _ _ (by omega) (by omega)) (fun k => e6 _ _ (by omega) (by omega))) ?_
    rintro b h2 _ ⟨F2, b2, rE, rO⟩ T2
    rw [eQ] at rE rO
    obtain ⟨j0, eb, b11, b31, b32⟩ := rO
    refine ⟨j0, fun _ => ?_, vj_1_ok sd2 hs pp A B W s F1 k24 k11 k12 k8 rr4 wS fP l1 l2 C Fg F2 b2 b11 b31 rE (vu_prog_3 eQ) (vu_prog_nz ok4 eQ) (vu_prog_c ok ok2 ok3 eQ), ?_, ?_⟩
    · rw [vx_fr_K F2 (fun q => by
        have t := vu_SV_ge (by omega) q
        clear q
        omega), kg, er, eb]
    · rw [F2.1.1, Fg.1.1, F1.1.1]; omega
    · rw [F2.1.2, Fg.1.2, F1.1.2]; omega
  · rintro kx h1 ⟨ek, F, eQ, F1, k24, k11, k12⟩ _
    refine ⟨ek, fun T1 => ?_⟩
    have e6 : ∀ a k, 625 ≤ a → vx_J h1 a k = vx_J h a k := fun a k ha => vx_fq_J F1 (fun q => by
      have t := vi_Wg_in q
      clear q
      omega)
    refine vx_CI_mono (REF h1 T1 (fun k => e6 _ _ (by omega)) (fun k => e6 _ _ (by omega))) ?_
    rintro b h2 _ ⟨F2, b2, rE, rO⟩ T2
    rw [eQ] at rE rO
    obtain ⟨j0, b11, b31, b32⟩ := rO
    refine ⟨j0, fun t => absurd t (by decide), vj_1_no hs I0 P.1 r4 h11 F1 k24 k11 k12 F2 b2 b11 b31 b32 rE.2, ?_, ?_⟩
    · rw [F2.1.1]; exact F1.1.1
    · rw [F2.1.2]; exact F1.1.2
end
