/-! A rule without a total gives rows of the model: the class -/
/-- a row of the model -/
def vm_vr (f : Nat → Int) : Prop := (∃ p : Nat, f 0 = p ∧ p < 16) ∧ ∀ k, k < 4 → vz_va (f (k + 1))
/-- rows: those at the round's beginning, and those of the round -/
def vm_bs (c0 : Nat) (r0 : Nat → Nat → Int) (m0 : Nat → Int) (st : Nat → Nat) (sN tn : Int) (cnt : Nat) (rr : Nat → Nat → Int) (cm : Nat → Int) : Prop := c0 ≤ cnt ∧ (∀ i, i < c0 → vr_eq 5 (rr i) (r0 i) ∧ cm i = m0 i) ∧ (∀ i, c0 ≤ i → i < cnt → cm i = tn ∧ ∃ p : Nat, rr i 0 = p ∧ (st p : Int) = sN) ∧ ∀ i, i < cnt → vm_vr (rr i)
def vm_id (h : ve_H) (a cnt : Nat) : Prop := ∀ i, i < cnt → vx_J h a i = i
/-- the rows are T0 and the goals of l -/
def vm_se (w : Nat) (R : vu_R) (T0 : vm_S) (l : List (Nat → Int)) (cnt : Nat) (rr : Nat → Nat → Int) : Prop := (∀ i, i < cnt → T0 (rr i) ∨ ∃ u, u ∈ l ∧ vr_eq w (rr i) (vm_gl R u)) ∧ ∀ f, (T0 f ∨ ∃ u, u ∈ l ∧ vr_eq w f (vm_gl R u)) → ∃ i, i < cnt ∧ vr_eq w (rr i) f
def vm_XA (h0 : ve_H) (c0 : Nat) (r0 : Nat → Nat → Int) (m0 : Nat → Int) (st : Nat → Nat) (sN tn : Int) (R : vu_R) (T0 : vm_S) (l : List (Nat → Int)) (h : ve_H) : Prop := vx_fr vm_Wn h0 h ∧ ∃ cnt rr cm, vm_M h cnt rr cm ∧ vm_id h 25 cnt ∧ cnt ≤ 200 ∧ vm_bs c0 r0 m0 st sN tn cnt rr cm ∧ vm_se 5 R T0 l cnt rr
def vm_YA (h0 : ve_H) (R : vu_R) (T0 : vm_S) (l : List (Nat → Int)) (h : ve_H) : Prop := vx_fr vm_Wn h0 h ∧ ∃ rr cm, vm_M h 201 rr cm ∧ vm_id h 25 201 ∧ ∀ i, i < 201 → T0 (rr i) ∨ ∃ u, u ∈ l ∧ vr_eq 5 (rr i) (vm_gl R u)
def vm_ZA (w : Nat) (R : vu_R) (T0 : vm_S) (l : List (Nat → Int)) (u : Nat → Int) : Prop := T0 (vm_gl R u) ∨ ∃ v, v ∈ l ∧ vr_eq w (vm_gl R u) (vm_gl R v)
def vm_PA (c0 : Nat) (r0 : Nat → Nat → Int) (m0 : Nat → Int) (st : Nat → Nat) (sN tn fr : Int) (L : vy_L) (σ : Nat → Nat) (e : Nat) : vm_S := fun f => ∃ i, i < c0 ∧ vr_eq 5 (r0 i) f ∧ vm_it fr tn ((st (L.2.2.1 (σ e)).toNat : Int) = sN) e (m0 i)
def vm_NA (c0 : Nat) (r0 : Nat → Nat → Int) : vm_S := fun f => ∃ i, i < c0 ∧ vr_eq 5 (r0 i) f
/-- sets of rows that don't look behind the fifth place -/
def vm_cg (w : Nat) (T : vm_S) : Prop := ∀ f g, vr_eq w f g → T f → T g
section
variable {w : Nat} {f g e : Nat → Int}
theorem vr_eq_symm (h : vr_eq w f g) : vr_eq w g f := fun k hk => (h k hk).symm
theorem vr_eq_trans (h : vr_eq w f g) (h2 : vr_eq w g e) : vr_eq w f e := fun k hk => (h k hk).trans (h2 k hk)
end
section
variable {d o pi : Nat} {R : vu_R} {σ : Nat → Nat} {b : Nat → Int} {st : Nat → Nat} {sN tn fr sd : Int} {c0 : Nat} {r0 : Nat → Nat → Int} {m0 : Nat → Int} {T0 : vm_S} {h h1 : ve_H} {l : List (Nat → Int)} {u v : Nat → Int}
theorem vm_vr_eq {f g : Nat → Int} (e : vr_eq 5 f g) (q : vm_vr f) : vm_vr g := by
  refine ⟨?_, fun k hk => by rw [← e (k + 1) (by omega)]; exact q.2 k hk⟩
  obtain ⟨p, h1, h2⟩ := q.1
  exact ⟨p, by rw [← e 0 (by omega)]; exact h1, h2⟩
/-- the goal by the variables that it has -/
theorem vm_gl_ag {x : Int} (h : vm_ag x u v) (hg : ∀ i, vu_go R i → vb x i = true) : vr_eq (vm_gw R) (vm_gl R u) (vm_gl R v) := by
  intro k hk
  unfold vm_gl
  unfold vm_gw at hk
  by_cases q : R.1 = -1
  · rw [if_pos q, if_pos q]
    by_cases q2 : k < R.2.2.2.1
    · show (if k < R.2.2.2.1 then u k else 0) = if k < R.2.2.2.1 then v k else 0
      rw [if_pos q2, if_pos q2]
      exact h k (hg k (by unfold vu_go; rw [if_pos q]; exact q2))
    · show (if k < R.2.2.2.1 then u k else 0) = if k < R.2.2.2.1 then v k else 0
      rw [if_neg q2, if_neg q2]
  · rw [if_neg q, if_neg q]
    rw [if_neg q] at hk
    cases k with
    | zero => rfl
    | succ k => exact vm_v_ag h (fun i hi => hg i (by unfold vu_go; rw [if_neg q]; exact ⟨k, by omega, hi⟩))
theorem vm_gl_nv (ha : vz_aw R.2.2.2.1 false R.2.1) (h : ∀ i, i < R.2.2.2.1 → u i = v i) : vr_eq (vm_gw R) (vm_gl R u) (vm_gl R v) := by
  intro k hk
  unfold vm_gl
  by_cases q : R.1 = -1
  · rw [if_pos q, if_pos q]
    show (if k < R.2.2.2.1 then u k else 0) = if k < R.2.2.2.1 then v k else 0
    by_cases q2 : k < R.2.2.2.1
    · rw [if_pos q2, if_pos q2]; exact h k q2
    · rw [if_neg q2, if_neg q2]
  · rw [if_neg q, if_neg q]
    cases k with
    | zero => rfl
    | succ k =>
      show vm_v u (R.2.1 k) = vm_v v (R.2.1 k)
      rcases vz_v_or (R.2.1 k) with ⟨i, hi⟩ | hn
      · rw [vm_v_v hi, vm_v_v hi]; exact h i ((ha k).1 i hi)
      · rw [vm_v_c hn, vm_v_c hn]
/-- a head's row is a row -/
theorem vm_gl_vr {p : Nat} (hp : R.1 = p) (p16 : p < 16) (ha : vz_aw R.2.2.2.1 false R.2.1) (ht : ∀ k, vz_tk (R.2.1 k)) (hv : ∀ i, i < R.2.2.2.1 → vz_va (u i)) : vm_vr (vm_gl R u) ∧ vm_gl R u 0 = p := by
  have e : vm_gl R u = vu_row R.1 (fun k => vm_v u (R.2.1 k)) := if_neg (by omega)
  rw [e]
  refine ⟨⟨⟨p, hp, p16⟩, fun k _ => ?_⟩, hp⟩
  show vz_va (vm_v u (R.2.1 k))
  rcases vz_v_or (R.2.1 k) with ⟨i, hi⟩ | hn
  · rw [vm_v_v hi]; exact hv i ((ha k).1 i hi)
  · rw [vm_v_c hn]
    rcases ht k with q | ⟨i, q⟩ | q
    · exact q
    · exact absurd q (hn i)
    · exact absurd q ((ha k).2 rfl)
theorem vm_bs_db {cnt : Nat} {rr : Nat → Nat → Int} {cm : Nat → Int} {L : vy_L} (M : vm_M h cnt rr cm) (B : vm_bs c0 r0 m0 st sN tn cnt rr cm) (hneg : ∀ j, j < L.1 → L.2.1 j = 15 → (st (L.2.2.1 j).toNat : Int) ≠ sN) (hσ : ∀ e, e < L.1 → σ e < L.1) : vm_db h L σ st sN tn fr (vm_PA c0 r0 m0 st sN tn fr L σ) (vm_NA c0 r0) := by
  obtain ⟨b1, b2, b3, b4⟩ := B
  refine Or.inr ⟨cnt, rr, cm, M, fun i hi => (b4 i hi).2, fun e he => ⟨fun _ => ⟨fun i hi q1 q2 => ?_, fun f q1 q2 => ?_⟩, fun k15 => ⟨fun i hi q1 => ?_, fun f q1 q2 => ?_⟩⟩⟩
  · by_cases q : i < c0
    · exact ⟨i, q, vr_eq_symm (b2 i q).1, by rw [← (b2 i q).2]; exact q2⟩
    · exfalso
      obtain ⟨t1, p, t2, t3⟩ := b3 i (by omega) hi
      have ow : ((st (L.2.2.1 (σ e)).toNat : Int) = sN) := by
        rw [← q1, t2, show ((p : Nat) : Int).toNat = p by omega]; exact t3
      have t := q2 ow
      rw [t1] at t
      omega
  · obtain ⟨i, i1, i2, i3⟩ := q1
    exact ⟨i, by omega, vr_eq_trans (b2 i i1).1 i2, by rw [(b2 i i1).2]; exact i3⟩
  · by_cases q : i < c0
    · exact ⟨i, q, vr_eq_symm (b2 i q).1⟩
    · exfalso
      obtain ⟨t1, p, t2, t3⟩ := b3 i (by omega) hi
      refine hneg (σ e) (hσ e he) k15 ?_
      rw [← q1, t2, show ((p : Nat) : Int).toNat = p by omega]; exact t3
  · obtain ⟨i, i1, i2⟩ := q1
    exact ⟨i, by omega, vr_eq_trans (b2 i i1).1 i2⟩
/-- rows that stay, by what the model has -/
theorem vm_kp_M {cnt cnt1 : Nat} {rr rr1 : Nat → Nat → Int} {cm cm1 : Nat → Int} (M : vm_M h cnt rr cm) (M1 : vm_M h1 cnt1 rr1 cm1) (hc : cnt ≤ cnt1) (hr : ∀ i, i < cnt → vr_eq 5 (rr1 i) (rr i) ∧ cm1 i = cm i) (hn : ∀ i, i < cnt → vx_J h1 28 i = vx_J h 28 i) : vm_kp h h1 := by
  have e0 : vx_J h 23 4 = cnt := M.1.2.1
  have e1 : vx_J h1 23 4 = cnt1 := M1.1.2.1
  refine ⟨by omega, fun i hi => ⟨fun k hk => ?_, ?_, hn i (by omega)⟩⟩
  · have t := M.1.2.2.2.1 i k (by omega) hk
    have t1 := M1.1.2.2.2.1 i k (by omega) hk
    rw [vm_K23.2.1] at t t1
    rw [t, t1]
    exact (hr i (by omega)).1 k hk
  · rw [M.2.1 i (by omega), M1.2.1 i (by omega)]; exact (hr i (by omega)).2
/-- addTuple with a goal of this round -/
theorem vm_addA {p : Nat} {f : Nat → Int} {cnt : Nat} {rr : Nat → Nat → Int} {cm : Nat → Int} (hT : vx_T 1 625 h) (M : vm_M h cnt rr cm) (I : vm_id h 25 cnt) (hc : cnt ≤ 200) (B : vm_bs c0 r0 m0 st sN tn cnt rr cm) (hf : ∀ k, k < 5 → vx_K h 32 k = f k) (hp : f 0 = p) (p16 : p < 16) (hst : (st p : Int) = sN) (hvr : vm_vr f) (h10 : vx_J h 21 10 = tn) : vx_CV (d + 2) 113 [.ref 21] h (fun h1 => vx_fr vm_Wa h h1 ∧ vm_kp h h1 ∧ ∃ cnt1 rr1 cm1, vm_M h1 cnt1 rr1 cm1 ∧ vm_id h1 25 cnt1 ∧ vm_bs c0 r0 m0 st sN tn cnt1 rr1 cm1 ∧ ((vx_J h1 21 12 = 0 ∧ cnt1 ≤ 200) ∨ (vx_J h1 21 12 ≠ 0 ∧ cnt1 = 201)) ∧ (∀ i, i < cnt1 → (∃ j, j < cnt ∧ vr_eq 5 (rr1 i) (rr j)) ∨ vr_eq 5 (rr1 i) f) ∧ (∀ i, i < cnt → ∃ j, j < cnt1 ∧ vr_eq 5 (rr1 j) (rr i)) ∧ ∃ j, j < cnt1 ∧ vr_eq 5 (rr1 j) f) := by
  refine vx_CV_mono (vc_113 hT M hc hf hp p16 h10) ?_
  rintro h1 ⟨F, N, q⟩
  rcases q with ⟨⟨i, i1, i2⟩, M1, o1, j1⟩ | ⟨q1, M1, o1, j1⟩
  · exact ⟨F, vm_kp_M M M1 (Nat.le_refl _) (fun i _ => ⟨fun _ _ => rfl, rfl⟩) N, cnt, rr, cm, M1, fun i hi => (o1 i).trans (I i hi), B, Or.inl ⟨j1, hc⟩, fun i hi => Or.inl ⟨i, hi, fun _ _ => rfl⟩, fun i hi => ⟨i, hi, fun _ _ => rfl⟩, i, i1, i2⟩
  · have ra : ∀ i, i < cnt → vr_eq 5 (vr_ad rr cnt f i) (rr i) ∧ vm_cs cm cnt tn i = cm i := fun i hi => ⟨fun k _ => by rw [vr_ad_lt hi], if_neg (by omega)⟩
    obtain ⟨b1, b2, b3, b4⟩ := B
    refine ⟨F, vm_kp_M M M1 (by omega) ra N, cnt + 1, vr_ad rr cnt f, vm_cs cm cnt tn, M1, fun i hi => ?_, ⟨by omega, fun i hi => ?_, fun i hi1 hi2 => ?_, fun i hi => ?_⟩, ?_, fun i hi => ?_, fun i hi => ⟨i, by omega, (ra i hi).1⟩, cnt, by omega, fun k _ => by rw [vr_ad_eq]⟩
    · by_cases e : i = cnt
      · rw [e]; exact o1.1
      · rw [o1.2 i e]; exact I i (by omega)
    · exact ⟨vr_eq_trans (ra i (by omega)).1 (b2 i hi).1, (ra i (by omega)).2.trans (b2 i hi).2⟩
    · by_cases e : i = cnt
      · rw [e]
        refine ⟨if_pos rfl, p, ?_, hst⟩
        rw [vr_ad_eq]; exact hp
      · have t := b3 i hi1 (by omega)
        rw [(ra i (by omega)).2, vr_ad_lt (show i < cnt by omega)]
        exact t
    · by_cases e : i = cnt
      · rw [e, vr_ad_eq]; exact hvr
      · rw [vr_ad_lt (show i < cnt by omega)]; exact b4 i (by omega)
    · rw [j1]
      by_cases e : cnt < 200
      · rw [if_pos e]; exact Or.inl ⟨rfl, by omega⟩
      · rw [if_neg e]; exact Or.inr ⟨by decide, by omega⟩
    · by_cases e : i = cnt
      · rw [e, vr_ad_eq]; exact Or.inr (fun _ _ => rfl)
      · exact Or.inl ⟨i, by omega, (ra i (by omega)).1⟩
theorem vm_HA {p : Nat} {h0 : ve_H} (hp : R.1 = p) (p16 : p < 16) (hO : R.2.2.1.1 = -1) (ha : vz_aw R.2.2.2.1 false R.2.1) (ht : ∀ k, vz_tk (R.2.1 k)) (hst : (st p : Int) = sN) (hneg : ∀ j, j < R.2.2.2.2.1 → R.2.2.2.2.2.1 j = 15 → (st (R.2.2.2.2.2.2.1 j).toNat : Int) ≠ sN) (hσ : ∀ e, e < R.2.2.2.2.1 → σ e < R.2.2.2.2.1) (hG : ∀ e : Nat, sd ≤ e → e ≤ R.2.2.2.2.1 → ∀ i, vu_go R i → vb (b e) i = true) (hT0 : vm_cg 5 T0) :
    vm_HY o pi 23 R σ b st sN tn fr sd (vm_PA c0 r0 m0 st sN tn fr R.2.2.2.2 σ) (vm_NA c0 r0) (vm_XA h0 c0 r0 m0 st sN tn R T0) (vm_YA h0 R T0) (vm_ZA 5 R T0) := by
  have w5 : vm_gw R = 5 := if_neg (by omega)
  refine ⟨?_, ?_, ?_, ?_, ?_, ?_, ?_⟩
  · rintro l h h1 ⟨G, cnt, rr, cm, M, I, q⟩ F
    exact ⟨vx_fr_trans G (vx_fr_mono F (fun a k q => by omega)), cnt, rr, cm, vm_M_fr M F (fun a k q => by omega), fun i hi => (vx_fr_J F (by omega)).trans (I i hi), q⟩
  · rintro l h h1 ⟨G, rr, cm, M, I, q⟩ F
    exact ⟨vx_fr_trans G (vx_fr_mono F (fun a k q => by omega)), rr, cm, vm_M_fr M F (fun a k q => by omega), fun i hi => (vx_fr_J F (by omega)).trans (I i hi), q⟩
  · rintro l l' u (q | ⟨v, q1, q2⟩)
    · exact Or.inl q
    · exact Or.inr ⟨v, List.mem_append.mpr (Or.inl q1), q2⟩
  · rintro l h ⟨_, cnt, rr, cm, M, I, q1, q2, q3⟩
    exact vm_bs_db M q2 hneg hσ
  · rintro d l h hT C ⟨G, cnt, rr, cm, M, I, q1, q2, q3⟩ j0 hv
    refine vg_112 hT (vx_CV_mono (vc_111 (d := d + 1) hT C.1) ?_)
    rintro h1 ⟨F1, hg⟩ hT1
    rw [w5] at hg
    have C1 := vm_cx_fr C F1 (fun a k q => vm_W2_W q)
    have gv := vm_gl_vr (u := vm_hv h) hp p16 ha ht hv
    refine ⟨o, C1.1.1.1, C1.1.1.2.1, fun _ => ⟨fun q => absurd (C1.1.2.2.2.1.1.trans hO) q, fun _ => ?_⟩, fun q => absurd (C1.1.2.1.symm.trans q) (by omega)⟩
    refine vx_CV_mono (vm_addA (d := d) (f := vm_gl R (vm_hv h)) hT1 (vm_M_fr M F1 (fun a k q => by omega)) (fun i hi => (vx_fr_J F1 (by omega)).trans (I i hi)) q1 q2 hg gv.2 p16 hst gv.1 C1.2.2.2.2.2.2.2.1) ?_
    rintro h6 ⟨F6, K6, cnt1, rr1, cm1, M1, I1, B1, j1, a1, a2, a3⟩ _
    refine ⟨vx_fr_trans (vx_fr_mono F1 (fun a k q => by omega)) (vx_fr_mono F6 (fun a k q => by omega)), vm_kp_trans (vm_kp_fr F1 (fun a k q => by omega)) K6, ?_⟩
    have G6 : vx_fr vm_Wn h0 h6 := vx_fr_trans G (vx_fr_trans (vx_fr_mono F1 (fun a k q => by omega)) (vx_fr_mono F6 (fun a k q => by omega)))
    have snd : ∀ i, i < cnt1 → T0 (rr1 i) ∨ ∃ u, u ∈ l ++ [vm_hv h] ∧ vr_eq 5 (rr1 i) (vm_gl R u) := by
      intro i hi
      rcases a1 i hi with ⟨j, t1, t2⟩ | t
      · rcases q3.1 j t1 with s | ⟨u, s1, s2⟩
        · exact Or.inl (hT0 _ _ (vr_eq_symm t2) s)
        · exact Or.inr ⟨u, List.mem_append.mpr (Or.inl s1), vr_eq_trans t2 s2⟩
      · exact Or.inr ⟨vm_hv h, List.mem_append.mpr (Or.inr (List.mem_singleton.mpr rfl)), t⟩
    rcases j1 with ⟨j1, c1⟩ | ⟨j1, c1⟩
    · refine Or.inl ⟨j1, G6, cnt1, rr1, cm1, M1, I1, c1, B1, snd, ?_⟩
      rintro f (s | ⟨u, s1, s2⟩)
      · obtain ⟨i, t1, t2⟩ := q3.2 f (Or.inl s)
        obtain ⟨j, t3, t4⟩ := a2 i t1
        exact ⟨j, t3, vr_eq_trans t4 t2⟩
      · rcases List.mem_append.mp s1 with s1 | s1
        · obtain ⟨i, t1, t2⟩ := q3.2 f (Or.inr ⟨u, s1, s2⟩)
          obtain ⟨j, t3, t4⟩ := a2 i t1
          exact ⟨j, t3, vr_eq_trans t4 t2⟩
        · rw [List.mem_singleton.mp s1] at s2
          obtain ⟨j, t3, t4⟩ := a3
          exact ⟨j, t3, vr_eq_trans t4 (vr_eq_symm s2)⟩
    · subst c1
      exact Or.inr ⟨j1, G6, rr1, cm1, M1, I1, snd⟩
  · rintro d e l h hT C ⟨G, cnt, rr, cm, M, I, q1, q2, q3⟩ j0 hs he
    refine vx_CI_mono (vc_110 (d := d) (a := 23) (cnt := cnt) (rr := rr) hT C.1 C.2.2.2.2.2.2.2.2.2 (by rw [w5]; exact vm_t23) (by rw [w5]; exact M.1)) ?_
    rintro r h1 _ ⟨F, q⟩
    refine ⟨vx_fr_mono F (fun a k q => by omega), vm_kp_fr F (fun a k q => by omega), ⟨vx_fr_trans G (vx_fr_mono F (fun a k q => by omega)), cnt, rr, cm, vm_M_fr M F (fun a k q => by omega), fun i hi => (vx_fr_J F (by omega)).trans (I i hi), q1, q2, q3⟩, (vx_fr_J F (by omega)).trans j0, fun r0 u hu => ?_⟩
    have ge := vm_gl_ag (R := R) hu (hG e hs he)
    rw [w5] at ge q
    rcases q with ⟨_, i, i1, i2⟩ | ⟨t, _⟩
    · rcases q3.1 i i1 with s | ⟨w, s1, s2⟩
      · exact Or.inl (hT0 _ _ (vr_eq_trans i2 ge) s)
      · exact Or.inr ⟨w, s1, vr_eq_trans (vr_eq_symm ge) (vr_eq_trans (vr_eq_symm i2) s2)⟩
    · exact absurd t r0
  · intro l v u hvu
    have ge := vm_gl_nv (R := R) ha hvu
    rw [w5] at ge
    exact Or.inr ⟨v, List.mem_append.mpr (Or.inr (List.mem_singleton.mpr rfl)), vr_eq_symm ge⟩
end
