/-! fault, total: the pairs -/
/-- one program, with its facts in two orders -/
def vi_E (S S' : vu_S) : Prop := S'.1 = S.1 ∧ S'.2.2.1 = S.2.2.1 ∧ S'.2.2.2.1 = S.2.2.2.1 ∧ S'.2.2.2.2.1 = S.2.2.2.2.1 ∧ ∀ f, (∃ j, j < S.2.2.2.2.1 ∧ vr_eq 5 (S.2.2.2.2.2 j) f) ↔ ∃ j, j < S'.2.2.2.2.1 ∧ vr_eq 5 (S'.2.2.2.2.2 j) f
/-- the program: the class's and the reference's -/
def vi_P (h : ve_H) (pi sd : Nat) (S S' : vu_S) (st : Nat → Nat) : Prop := ve_R h 1 3 = some pi ∧ vu_cg h pi S.1 S.2.2.1 S.2.2.2.1 ∧ vs_cs h pi st ∧ vr_P (pi + 6) 5 S.2.2.2.2.1 S.2.2.2.2.2 h ∧ S.2.2.2.2.1 ≤ 200 ∧ vx_J h pi 8 = (vs_ns st S.1.1 : Nat) ∧ (∀ p, p < 16 → st p ≤ 16) ∧ vn_pc h sd S' st ∧ vi_E S S'
/-- the states -/
def vi_S (h : ve_H) : Prop := (vx_J h 1 8 = 0 ∨ vx_J h 1 8 = 1 ∨ vx_J h 1 8 = 2) ∧ vx_J h 625 31 = vx_J h 1 8 ∧ (0 ≤ vx_J h 1 9 ∧ vx_J h 1 9 ≤ 40) ∧ vx_J h 625 36 = vx_J h 1 9 ∧ (0 ≤ vx_J h 1 10 ∧ vx_J h 1 10 ≤ 500) ∧ vx_J h 625 37 = vx_J h 1 10 ∧ vx_J h 625 3 = vx_J h 1 11 ∧ vx_J h 625 4 = vx_J h 1 12
/-- the class's model: as it was made, or the one of a new object -/
def vi_N (h : ve_H) (S : vu_S) (cnt : Nat) (rr : Nat → Nat → Int) (cm : Nat → Int) : Prop := vm_M h cnt rr cm ∨ (S.1.1 = 0 ∧ cnt = 0 ∧ vx_J h 23 4 = 0)
section
variable {h g : ve_H} {S : vu_S} {cnt : Nat} {rr : Nat → Nat → Int} {cm : Nat → Int}
theorem vi_N_c (M : vi_N h S cnt rr cm) : vx_J h 23 4 = cnt := by
  rcases M with t | ⟨_, t1, t2⟩
  · exact t.1.2.1
  · rw [t1]; exact t2
theorem vi_N_dj (M : vi_N h S cnt rr cm) : ∀ i j, i < cnt → j < cnt → vr_eq 5 (rr i) (rr j) → i = j := by
  rcases M with t | ⟨_, t1, t2⟩
  · exact t.1.2.2.2.2.2
  · intro i j hi
    omega
theorem vi_N_fr {Sx : Nat → Nat → Prop} (M : vi_N h S cnt rr cm) (F : vx_fr Sx h g) (hs : ∀ a k, Sx a k → a < 23 ∨ 30 < a) : vi_N g S cnt rr cm := by
  rcases M with t | ⟨t0, t1, t2⟩
  · exact Or.inl (vm_M_fr t F hs)
  · exact Or.inr ⟨t0, t1, (vx_fr_J F (fun q => by have := hs _ _ q; omega)).trans t2⟩
end
/-- the models -/
def vi_M (h : ve_H) (S : vu_S) (st : Nat → Nat) : Prop := ∃ cnt rr cm o cnt' rr' cm', vi_N h S cnt rr cm ∧ cnt ≤ 200 ∧ vm_lb S st (vs_ns st S.1.1) cnt rr cm ∧ vr_so 5 rr o cnt ∧ (∀ j, j < cnt → vx_J h 25 j = o j) ∧ vn_T h S.1 cnt' rr' cm' ∧ cnt' ≤ 200 ∧ vm_lb S st (vs_ns st S.1.1) cnt' rr' cm'
/-- what total tells -/
def vi_tot (h : ve_H) (S : vu_S) (st : Nat → Nat) (ac : Nat) (x : Int) : Int := if x = 0 then vx_J h 1 7 else if x = 1 then (ac : Int) else if x = 2 then (S.1.1 : Int) else if x = 3 then (S.2.2.1 : Int) else if x = 4 then (S.2.2.2.2.1 : Int) else if x = 5 then vx_J h 1 8 else if x = 6 then (if vx_J h 1 8 = 1 then vx_J h 23 4 else 0) else if x = 7 then ((vs_ns st S.1.1 : Nat) : Int) else if x = 8 then vx_J h 1 9 else -1
section
variable {d L aa n ac pi sd : Nat} {S S' : vu_S} {st : Nat → Nat} {xs : Nat → Int32} {h h1 : ve_H} {ar : Nat → Nat → Int} {o : Nat → Nat} {x y : Int} {I' : ve_H → Prop}
theorem vp_3 (hT : vx_TL L xs h) (s : vi_S h) (hx : vx_rI x) (K : ∀ h2, vx_TL L xs h2 → vx_fq (fun a k => a = 672 ∨ (a = 625 ∧ k = 0)) h h2 → I' h2) : vl_I d L xs I' 4 64 [.int (vx_i x)] h := by
  have s3 := s.2.2.2.2.2.2
  have REF : ∀ r : Int, (x ≠ 0 ∧ x ≠ 1 ∧ r = -1) ∨ (x = 1 ∧ r = vx_J h 1 12) ∨ (x = 0 ∧ r = vx_J h 1 11) → vx_TL L xs h → vx_CI d 64 [.ref 625, .int (vx_i x)] h (fun r2 h2 => vx_TL L xs h2 → r = r2 ∧ I' h2) := by
    intro r c T
    refine vg_64 (vx_TLT T) (fun g1 e1 T1 => ?_)
    have F1 : vx_fr (fun a k => a = 672 ∨ (a = 625 ∧ k = 0)) h g1 := vx_fr_sJ vx_fr_refl e1 (Or.inr ⟨rfl, rfl⟩)
    have k3 : vx_J g1 625 3 = vx_J h 1 11 := (vx_fr_J F1 (by omega)).trans s3.1
    have k4 : vx_J g1 625 4 = vx_J h 1 12 := (vx_fr_J F1 (by omega)).trans s3.2
    rw [k3, k4]
    exact ⟨hx, fun q => ⟨fun q2 T2 => ⟨by omega, K g1 T2 (vx_fq_fr F1)⟩, fun q2 T2 => ⟨by omega, K g1 T2 (vx_fq_fr F1)⟩⟩, fun q T2 => ⟨by omega, K g1 T2 (vx_fq_fr F1)⟩⟩
  exact vg_4 (vx_TLC hT) ⟨hx, fun q => ⟨fun q2 => REF _ (Or.inl ⟨q, q2, rfl⟩), fun q2 => REF _ (Or.inr (Or.inl ⟨q2, rfl⟩))⟩, fun q => REF _ (Or.inr (Or.inr ⟨q, rfl⟩))⟩
theorem vi_M_cnt (M : vi_M h S st) : vx_J h 625 32 = vx_J h 23 4 := by
  obtain ⟨cnt, rr, cm, o, cnt', rr', cm', m1, m2, m3, m4, m5, m6, m7, m8⟩ := M
  have e := (vm_agree m3 (vi_N_dj m1) m8 m6.2.2).1
  rw [m6.1, vi_N_c m1, e]
theorem vi_tot_d {S : vu_S} (q : x ≠ 0 ∧ x ≠ 1 ∧ x ≠ 2 ∧ x ≠ 3 ∧ x ≠ 4 ∧ x ≠ 5 ∧ x ≠ 6 ∧ x ≠ 7 ∧ x ≠ 8 ∧ True) : vi_tot h S st ac x = -1 := by
  obtain ⟨q0, q1, q2, q3, q4, q5, q6, q7, q8, _⟩ := q
  unfold vi_tot
  rw [if_neg q0, if_neg q1, if_neg q2, if_neg q3, if_neg q4, if_neg q5, if_neg q6, if_neg q7, if_neg q8]
theorem vc_97 (T : vx_TL L xs h) (s : vi_S h) (p8 : vn_pc h sd S' st) (p9 : vi_E S S') (p7 : ∀ p, p < 16 → st p ≤ 16) (a5 : vx_J h 1 7 = n) (a8 : vx_J h 625 38 = ac) (a9 : vx_J h 625 39 = n) (k : vx_J h 1 8 = 1 → vx_J h 625 32 = vx_J h 23 4) (hx : vx_rI x) (K : ∀ h2, vx_TL L xs h2 → vx_fq (fun a k => a = 672 ∨ (a = 625 ∧ k = 0)) h h2 → I' h2) : vx_CI (d + 1) 97 [.ref 625, .int (vx_i x)] h (fun r2 h2 => vx_TL L xs h2 → vi_tot h S st ac x = r2 ∧ I' h2) := by
  have sd2 := p8.1.1.1
  refine vg_97 (vx_TLT T) (fun g1 e1 T1 => ?_)
  have F1 : vx_fr (fun a k => a = 672 ∨ (a = 625 ∧ k = 0)) h g1 := vx_fr_sJ vx_fr_refl e1 (Or.inr ⟨rfl, rfl⟩)
  have C1 := vn_pc_fr p8 F1 (fun a k q => by omega)
  have fin : ∀ z : Int, vi_tot h S st ac x = z → vx_TL L xs g1 → vi_tot h S st ac x = z ∧ I' g1 := fun z e T2 => ⟨e, K g1 T2 (vx_fq_fr F1)⟩
  have k39 : vx_J g1 625 39 = vx_J h 1 7 := (vx_fr_J F1 (by omega)).trans (a9.trans a5.symm)
  have k38 : vx_J g1 625 38 = ac := (vx_fr_J F1 (by omega)).trans a8
  have k31 : vx_J g1 625 31 = vx_J h 1 8 := (vx_fr_J F1 (by omega)).trans s.2.1
  have k36 : vx_J g1 625 36 = vx_J h 1 9 := (vx_fr_J F1 (by omega)).trans s.2.2.2.1
  have k32 : vx_J h 1 8 = 1 → vx_J g1 625 32 = vx_J h 23 4 := fun q => (vx_fr_J F1 (by omega)).trans (k q)
  have k631 : vx_J g1 631 sd = S.1.1 := by rw [C1.1.1.2.1, p9.1]
  have k635 : vx_J g1 635 sd = S.2.2.1 := by rw [C1.2.1, p9.2.1]
  have k647 : vx_J g1 647 sd = S.2.2.2.2.1 := by rw [C1.2.2.2.2.1, p9.2.2.2.1]
  rw [C1.1.2, show ((sd : Nat) : Int).toNat = sd by omega, k39, k38, k31, k36, k631, k635, k647]
  have sdr : (0 : Int) ≤ (sd : Int) ∧ (sd : Int) < 2 := by omega
  refine ⟨hx, fun q => fin _ (by rw [q]; rfl), fun q => fin _ (by rw [q]; rfl), fun q => ⟨sdr, fin _ (by rw [q]; rfl)⟩, fun q => ⟨sdr, fin _ (by rw [q]; rfl)⟩, fun q => ⟨sdr, fin _ (by rw [q]; rfl)⟩, fun q => fin _ (by rw [q]; rfl), fun q => ⟨fun q2 => fin _ (by rw [q]; exact if_neg q2), fun q2 => fin _ (by rw [q, k32 q2]; exact if_pos q2)⟩, fun q => vx_CI_mono (vc_89 C1 T1 p7) ?_, fun q => fin _ (by rw [q]; rfl), fun q => fin _ (vi_tot_d q)⟩
  rintro r8 h8 _ ⟨rfl, e8⟩ _
  refine fin _ ?_
  rw [e8, p9.1, q]
  rfl
theorem vp_7 (hT : vx_TL L xs h) (s : vi_S h) (P : vi_P h pi sd S S' st) (A : vi_A h aa n ac ar o) (M : vx_J h 1 8 = 1 → vi_M h S st) (hx : vx_rI x) (K : ∀ h2, vx_TL L xs h2 → vx_fq (fun a k => a = 672 ∨ (a = 625 ∧ k = 0)) h h2 → I' h2) : vl_I (d + 1) L xs I' 8 97 [.int (vx_i x)] h := by
  obtain ⟨a1, a2, a3, a4, a5, a6, a7, a8, a9, a10⟩ := A
  obtain ⟨p1, p2, p3, p4, p5, p6, p7, p8, p9⟩ := P
  have ta := vm_ta a2
  have opi := p2.1.1
  have ppo := vx_po opi
  have e6 : vx_J h pi 6 = S.1.1 := p2.1.2.1
  have e7 : vx_J h pi 7 = S.2.2.1 := p2.2.1
  have e4 : vx_J h (vx_r pi 5) 4 = S.2.2.2.2.1 := by rw [ppo.2.2.2.2.2.1]; exact p4.2.1
  have e1 : vx_J h aa 4 = ac := a3.2.1
  have REF : ∀ r : Int, r = vi_tot h S st ac x → vx_TL L xs h → vx_CI (d + 1) 97 [.ref 625, .int (vx_i x)] h (fun r2 h2 => vx_TL L xs h2 → r = r2 ∧ I' h2) := fun r c T => by
    rw [c]
    exact vc_97 T s p8 p9 p7 a5 a8 a9 (fun q => vi_M_cnt (M q)) hx K
  exact vg_8 (vx_TLC hT) ⟨hx, fun q => REF _ (by rw [q]; rfl), fun q => ⟨aa, a1, ta.1.1, REF _ (by rw [q, e1]; rfl)⟩, fun q => ⟨pi, p1, opi, REF _ (by rw [q, e6]; rfl)⟩, fun q => ⟨pi, p1, opi, REF _ (by rw [q, e7]; rfl)⟩, fun q => ⟨pi, p1, opi, REF _ (by rw [q, e4]; rfl)⟩, fun q => REF _ (by rw [q]; rfl), fun q => ⟨fun q2 => REF _ (by rw [q]; exact (if_neg q2).symm), fun q2 => REF _ (by rw [q]; exact (if_pos q2).symm)⟩, fun q => ⟨pi, p1, opi, REF _ (by rw [q, p6]; rfl)⟩, fun q => REF _ (by rw [q]; rfl), fun q => REF _ (vi_tot_d q).symm⟩
end
