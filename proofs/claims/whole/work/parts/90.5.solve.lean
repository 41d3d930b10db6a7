/-! solve: the pair, all together -/
def vi_Wc (a k : Nat) : Prop := (a = 21 ∧ k = 6) ∨ vm_Wm a k ∨ (a = 1 ∧ (k = 8 ∨ k = 9)) ∨ a = 672
def vi_Wo (a k : Nat) : Prop := vn_Wo a k
theorem vi_Wc_lt {a k : Nat} (q : vi_Wc a k) : (21 ≤ a ∧ a ≤ 38) ∨ (a = 1 ∧ (k = 8 ∨ k = 9)) ∨ a = 672 := by
  unfold vi_Wc at q
  omega
theorem vi_Wo_ge {a k : Nat} (q : vi_Wo a k) : (a = 625 ∧ k ≠ 11 ∧ k ≠ 3 ∧ k ≠ 4 ∧ k ≠ 37 ∧ k ≠ 38 ∧ k ≠ 39 ∧ k ≠ 2) ∨ (650 ≤ a ∧ a ≤ 654 ∧ a ≠ 653) ∨ (664 ≤ a ∧ a ≤ 671) := by
  unfold vi_Wo at q
  omega
theorem vi_Wo_36 : ¬ vi_Wo 672 0 := fun q => by have := vi_Wo_ge q; omega
section
variable {d L pi sd N : Nat} {S S' : vu_S} {st : Nat → Nat} {xs : Nat → Int32} {h g h2 : ve_H} {I' : ve_H → Prop}
theorem vn_pc_fq {Sx : Nat → Nat → Prop} (C : vn_pc h sd S st) (F : vx_fq Sx h g) (hs : ∀ a k, Sx a k → (a = 625 ∧ k ≠ 11) ∨ (650 ≤ a ∧ a ≤ 654) ∨ 664 ≤ a ∨ a < 625) : vn_pc g sd S st := by
  have F' := vx_fq_h F
  have C' : vn_pc (vx_hn h g) sd S st := C
  -- cells below 625 aren't looked at
  have n : ∀ a k, 626 ≤ a → a ≤ 663 → (a < 650 ∨ 654 < a) → ¬ Sx a k := fun a k a1 a2 a3 q => by have := hs a k q; omega
  have n11 : ¬ Sx 625 11 := fun q => by have := hs _ _ q; omega
  obtain ⟨c1, c2, c3, c4, c5⟩ := C'
  refine ⟨⟨vy_rp_fr c1.1 F' ⟨n _ _ (by decide) (by decide) (by decide), fun k _ _ => ⟨n _ _ (by decide) (by decide) (by decide), n _ _ (by decide) (by decide) (by decide)⟩⟩, (vx_fr_J F' n11).trans c1.2⟩, (vx_fr_J F' (n _ _ (by decide) (by decide) (by decide))).trans c2, fun r hr => vu_rr_fr (c3 r hr) F' (fun a ha => n _ _ (by omega) (by omega) (by omega)) (fun k _ _ => ⟨n _ _ (by decide) (by decide) (by decide), n _ _ (by decide) (by decide) (by decide)⟩) (fun k _ _ => ⟨n _ _ (by decide) (by decide) (by decide), n _ _ (by decide) (by decide) (by decide), n _ _ (by decide) (by decide) (by decide), n _ _ (by decide) (by decide) (by decide)⟩) (fun k _ _ => ⟨n _ _ (by decide) (by decide) (by decide), n _ _ (by decide) (by decide) (by decide)⟩), fun p hp => (vx_fr_J F' (n _ _ (by decide) (by decide) (by decide))).trans (c4 p hp), vu_rN_fr c5 F' (fun k => ⟨n _ _ (by decide) (by decide) (by decide), n _ _ (by decide) (by decide) (by decide), n _ _ (by decide) (by decide) (by decide)⟩)⟩
theorem vi_M_fr {Sx : Nat → Nat → Prop} (M : vi_M h S st) (F : vx_fr Sx h g) (hs : ∀ a k, Sx a k → (a < 23 ∨ 30 < a) ∧ a ≠ 650 ∧ a ≠ 651 ∧ a ≠ 652 ∧ (a = 625 → k ≠ 32)) : vi_M g S st := by
  obtain ⟨cnt, rr, cm, o, cnt', rr', cm', m1, m2, m3, m4, m5, m6, m7, m8⟩ := M
  exact ⟨cnt, rr, cm, o, cnt', rr', cm', vi_N_fr m1 F (fun a k q => (hs a k q).1), m2, m3, m4, fun j hj => (vx_fr_J F (fun q => by have := (hs _ _ q).1; omega)).trans (m5 j hj), vn_T_fr m6 F (fun a k q => (hs a k q).2), m7, m8⟩
theorem vp_4 (hT : vx_TL L xs h) (s : vi_S h) (P : vi_P h pi sd S S' st) (PG : vm_pg S st) (PG' : vm_pg S' st) (w3 : vu_w3 S') (hN : vs_ns st S.1.1 ≤ 17) (M : vx_J h 1 8 = 1 → vi_M h S st) (w1 : vx_J h 34 0 = (5 : Nat)) (w2 : vx_J h 23 0 = (5 : Nat)) (rk : ∀ h1, ve_n h1 = ve_n h → ve_u h1 = ve_u h → ve_rk h1 6 = true) (K : ∀ h2, vx_TL L xs h2 → vx_fq (fun a k => vi_Wc a k ∨ vi_Wo a k) h h2 → vi_S h2 → (vx_J h2 1 8 = 1 → vi_M h2 S st) → vx_J h2 23 0 = (5 : Nat) → I' h2) : vl_X (d + 14) L xs I' 211 91 [] h := by
  obtain ⟨p1, p2, p3, p4, p5, p6, p7, p8, p9⟩ := P
  obtain ⟨s1, s2, s3, s4, s5, s6, s7, s8⟩ := s
  have eN : vs_ns st S.1.1 = vs_ns st S'.1.1 := by rw [p9.1]
  -- the reference from where the class stopped
  have REF : ∀ g, vx_TL L xs g → vx_fq vi_Wc h g → vx_CI (d + 14) 91 [.ref 625] g (vn_sP S' st (vs_ns st S.1.1) g) := by
    intro g T F
    have nc : ∀ k, ¬ vi_Wc 625 k := fun k q => by have := vi_Wc_lt q; omega
    exact vc_91 (d := d + 2) PG' w3 eN hN (vn_pc_fq p8 F (fun a k q => by have := vi_Wc_lt q; omega)) (vx_TLT T) (by rw [vx_fq_J F (nc 31), s2]; exact s1) (by rw [vx_fq_J F (nc 36), s4]; exact s3)
  have nc : ∀ k, ¬ vi_Wc 625 k := fun k q => by have := vi_Wc_lt q; omega
  have no : ∀ a k, a < 625 → ¬ vi_Wo a k := fun a k ha q => by have := vi_Wo_ge q; omega
  have no5 : ∀ k, (k = 11 ∨ k = 3 ∨ k = 4 ∨ k = 37 ∨ k = 38 ∨ k = 39 ∨ k = 2) → ¬ vi_Wo 625 k := fun k hk q => by have := vi_Wo_ge q; omega
  -- what stays of the states
  have ST : ∀ g h2, vx_fq vi_Wc h g → vx_fr vi_Wo g h2 → vx_J h2 625 31 = vx_J g 1 8 → (vx_J g 1 8 = 0 ∨ vx_J g 1 8 = 1 ∨ vx_J g 1 8 = 2) → (0 ≤ vx_J g 1 9 ∧ vx_J g 1 9 ≤ 40) → vx_J h2 625 36 = vx_J g 1 9 → vi_S h2 := by
    intro g h2 F F2 a b c e
    have c1 : ∀ k, vx_J h2 1 k = vx_J g 1 k := fun k => vx_fr_J F2 (no 1 k (by decide))
    have c2 : ∀ k, (k = 10 ∨ k = 11 ∨ k = 12) → vx_J g 1 k = vx_J h 1 k := fun k hk => vx_fq_J F (fun q => by have := vi_Wc_lt q; omega)
    have c3 : ∀ k, (k = 37 ∨ k = 3 ∨ k = 4) → vx_J h2 625 k = vx_J h 625 k := fun k hk => (vx_fr_J F2 (no5 k (by omega))).trans (vx_fq_J F (nc k))
    refine ⟨by rw [c1]; exact b, by rw [c1]; exact a, by rw [c1]; exact c, by rw [c1]; exact e, ?_, ?_, ?_, ?_⟩
    · rw [c1, c2 10 (by omega)]; exact s5
    · rw [c1, c2 10 (by omega), c3 37 (by omega)]; exact s6
    · rw [c1, c2 11 (by omega), c3 3 (by omega)]; exact s7
    · rw [c1, c2 12 (by omega), c3 4 (by omega)]; exact s8
  have FQ : ∀ {g h2}, vx_fq vi_Wc h g → vx_fr vi_Wo g h2 → vx_fq (fun a k => vi_Wc a k ∨ vi_Wo a k) h h2 := fun F F2 => vx_fq_l (vx_fq_mono F (fun a k q => Or.inl q)) (vx_fr_mono F2 (fun a k q => Or.inr q))
  have f0 : ∀ {g h2}, vx_fr (fun a k => a = 625 ∧ k = 0) g h2 → vx_fr vi_Wo g h2 := fun F => vx_fr_mono F (fun a k q => Or.inr ⟨q.1, Or.inl q.2⟩)
  refine vg_211 (d := d + 13) hT.1 (vx_CX_mono (vc_5 (d := d) (N := vs_ns st S.1.1) (vx_TLC hT) PG s1 s3 p1 p2 p3 p4 p5 p6 hN w1 w2 rk) ?_ ?_)
  · rintro r h1 hr q _ g eg _ Tg
    have Fg : vx_fr (fun a _ => a = 672) h1 g := vx_fr_sK vx_fr_refl eg rfl
    have kg : vx_K g 672 0 = r := by rw [eg, vx_K_eq (show vx_rL r by omega)]
    rcases q with ⟨q1, rfl, er⟩ | ⟨q1, q2, F1, j8, j9, er, cnt, rr, cm, o, m1, m2, m3, m4, m5, m6⟩
    · have F : vx_fq vi_Wc h1 g := vx_fq_fr (vx_fr_mono Fg (fun a k q => Or.inr (Or.inr (Or.inr q))))
      refine vx_CI_mono (REF g Tg F) ?_
      rintro r2 h2 _ q T2
      have k31 : vx_J g 625 31 = 1 := by rw [vx_fq_J F (nc 31), s2]; exact q1
      rcases q with ⟨t, -⟩ | ⟨_, e2, F2, j0⟩ | ⟨t, -⟩
      · omega
      · have F2' := f0 F2
        have M2 : vi_M h2 S st := vi_M_fr (vi_M_fr (M q1) Fg (fun a k q => by omega)) F2 (fun a k q => by omega)
        refine ⟨j0, fun _ => ?_, K h2 T2 (FQ F F2') (ST g h2 F F2' ?_ ?_ ?_ ?_) (fun _ => M2) ?_⟩
        · rw [vx_fr_K F2 (by omega), kg, er, e2, vx_fq_J F (nc 32)]
          exact (vi_M_cnt (M q1)).symm
        · rw [vx_fr_J F2 (by omega), k31, vx_fr_J Fg (by omega), q1]
        · rw [vx_fr_J Fg (by omega)]; exact s1
        · rw [vx_fr_J Fg (by omega)]; exact s3
        · rw [vx_fr_J F2 (by omega), vx_fr_J Fg (by omega), vx_fr_J Fg (by omega)]; exact s4
        · rw [vx_fr_J F2 (by omega), vx_fr_J Fg (by omega)]; exact w2
      · omega
    · have F : vx_fq vi_Wc h g := vx_fq_fr (vx_fr_trans (vx_fr_mono F1 (fun a k q => by
        rcases q with q | q | q
        · exact Or.inl q
        · exact Or.inr (Or.inl q)
        · exact Or.inr (Or.inr (Or.inl q)))) (vx_fr_mono Fg (fun a k q => Or.inr (Or.inr (Or.inr q)))))
      refine vx_CI_mono (REF g Tg F) ?_
      rintro r2 h2 _ q T2
      have k31 : vx_J g 625 31 = 0 := by rw [vx_fq_J F (nc 31), s2]; exact q1
      have k36 : vx_J g 625 36 = vx_J h 1 9 := by rw [vx_fq_J F (nc 36)]; exact s4
      have V : ∀ f, vm_ml S st (vs_ns st S.1.1) f → ∃ i, i < cnt ∧ vr_eq 5 (rr i) f := fun f q => (m3.1 f).mp q
      rcases q with ⟨t, -⟩ | ⟨t, -⟩ | ⟨_, _, F2, e36, q⟩
      · omega
      · omega
      · have F2' : vx_fr vi_Wo g h2 := F2
        rcases q with ⟨j0, j31, cnt', rr', cm', e2, T', c', V', LG'⟩ | ⟨_, _, _, big⟩
        · have V2 := vi_E_lb p9 V'
          rw [p9.1] at T'
          have Mh : vm_M h2 cnt rr cm := vm_M_fr (vm_M_fr m1 Fg (fun a k q => by omega)) F2' (fun a k q => by have := vi_Wo_ge q; omega)
          have ag := (vm_agree m3 m1.1.2.2.2.2.2 V2 T'.2.2).1
          refine ⟨j0, fun _ => ?_, K h2 T2 (FQ F F2') (ST g h2 F F2' ?_ ?_ ?_ ?_) (fun _ => ⟨cnt, rr, cm, o, cnt', rr', cm', Or.inl Mh, m2, m3, m5, fun j hj => ?_, T', c', V2⟩) Mh.1.1⟩
          · rw [vx_fr_K F2' vi_Wo_36, kg, er, m1.1.2.1, e2, ag]
          · rw [j31, vx_fr_J Fg (by omega), j8]
          · rw [vx_fr_J Fg (by omega), j8]; omega
          · rw [vx_fr_J Fg (by omega), j9]; omega
          · rw [e36, k36, vx_fr_J Fg (by omega), j9]
          · rw [vx_fr_J F2' (no 25 j (by decide)), vx_fr_J Fg (by omega)]; exact m6 j hj
        · exact absurd (vi_E_big p9 big) (fun b => vm_notbig PG V m2 m4 b)
  · rintro kx h1 ⟨ek, q⟩ _
    refine ⟨ek, fun T1 => ?_⟩
    rcases q with ⟨q1, F1⟩ | ⟨q1, q2, F1, j8, j9, big, w8⟩
    · have F : vx_fq vi_Wc h h1 := vx_fq_mono F1 (fun a k q => absurd q (fun t => t))
      have c1 : ∀ k, vx_J h1 1 k = vx_J h 1 k := fun k => vx_fq_J F1 (fun t => t)
      refine vx_CI_mono (REF h1 T1 F) ?_
      rintro r2 h2 _ q T2
      have k31 : vx_J h1 625 31 = vx_J h 1 8 := by rw [vx_fq_J F (nc 31), s2]
      have k36 : vx_J h1 625 36 = vx_J h 1 9 := by rw [vx_fq_J F (nc 36)]; exact s4
      rcases q with ⟨_, F2, j0⟩ | ⟨t, -⟩ | ⟨t, t2, -⟩
      · have F2' := f0 F2
        refine ⟨j0, fun t => absurd t (by decide), K h2 T2 (FQ F F2') (ST h1 h2 F F2' ?_ ?_ ?_ ?_) (fun t => ?_) ?_⟩
        · rw [vx_fr_J F2 (by omega), k31, c1]
        · rw [c1]; exact s1
        · rw [c1]; exact s3
        · rw [vx_fr_J F2 (by omega), k36, c1]
        · rw [vx_fr_J F2 (by omega), c1] at t
          omega
        · rw [vx_fr_J F2 (by omega), vx_fq_J F1 (fun t => t)]; exact w2
      · omega
      · omega
    · have F : vx_fq vi_Wc h h1 := vx_fq_mono F1 (fun a k q => by
        rcases q with q | q | q
        · exact Or.inl q
        · exact Or.inr (Or.inl q)
        · exact Or.inr (Or.inr (Or.inl q)))
      refine vx_CI_mono (REF h1 T1 F) ?_
      rintro r2 h2 _ q T2
      have k31 : vx_J h1 625 31 = 0 := by rw [vx_fq_J F (nc 31), s2]; exact q1
      have k36 : vx_J h1 625 36 = vx_J h 1 9 := by rw [vx_fq_J F (nc 36)]; exact s4
      rcases q with ⟨t, -⟩ | ⟨t, -⟩ | ⟨_, _, F2, e36, q⟩
      · omega
      · omega
      · have F2' : vx_fr vi_Wo h1 h2 := F2
        rcases q with ⟨j0, j31, cnt', rr', cm', e2, T', c', V', LG'⟩ | ⟨j0, j31, j32, _⟩
        · exact absurd big (fun b => vm_notbig PG (fun f q => ((vi_E_lb p9 V').1 f).mp q) c' (fun s hs => vi_E_lg0 p9 (LG' s hs)) b)
        · have c8 : vx_J h2 1 8 = 2 := (vx_fr_J F2' (no 1 8 (by decide))).trans j8
          refine ⟨j0, fun t => absurd t (by decide), K h2 T2 (FQ F F2') (ST h1 h2 F F2' ?_ ?_ ?_ ?_) (fun t => by omega) ?_⟩
          · rw [j31, j8]
          · rw [j8]; omega
          · rw [j9]; omega
          · rw [e36, k36, j9]
          · rw [vx_fr_J F2' (no 23 0 (by decide))]; exact w8
end
