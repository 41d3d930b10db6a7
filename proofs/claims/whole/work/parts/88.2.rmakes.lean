/-! What the reference does with a way: rows of a clause without a total -/
abbrev vn_Wv (a k : Nat) : Prop := vn_W6 a k ∨ vn_Wt a k ∨ a = 669
def vn_XA (h0 : ve_H) (Pd : vy_V) (c0 : Nat) (r0 : Nat → Nat → Int) (m0 : Nat → Int) (st : Nat → Nat) (sN tn : Int) (R : vu_R) (T0 : vm_S) (l : List (Nat → Int)) (h : ve_H) : Prop := vx_fr vn_Wv h0 h ∧ ∃ cnt rr cm, vn_T h Pd cnt rr cm ∧ cnt ≤ 200 ∧ vm_bs c0 r0 m0 st sN tn cnt rr cm ∧ vm_se 5 R T0 l cnt rr
def vn_YA (h0 : ve_H) (Pd : vy_V) (R : vu_R) (T0 : vm_S) (l : List (Nat → Int)) (h : ve_H) : Prop := vx_fr vn_Wv h0 h ∧ ∃ rr cm, vn_T h Pd 201 rr cm ∧ ∀ i, i < 201 → T0 (rr i) ∨ ∃ u, u ∈ l ∧ vr_eq 5 (rr i) (vm_gl R u)
section
variable {d c m p sd cnt c0 jn : Nat} {h h0 h1 g : ve_H} {Pd : vy_V} {R : vu_R} {u f : Nat → Int} {rr r0 : Nat → Nat → Int} {cm m0 : Nat → Int} {x tn sN mk : Int} {st js : Nat → Nat} {T0 : vm_S} {l : List (Nat → Int)}
theorem vn_ro_eq {i : Nat} {f g : Nat → Int} (e : vr_eq 5 f g) (q : vn_ro h i f) : vn_ro h i g := ⟨by rw [← e 0 (by omega)]; exact q.1, fun k hk => by rw [← e (k + 1) (by omega)]; exact q.2 k hk⟩
theorem vn_ra_cg {f g : Nat → Int} (e : vr_eq 5 f g) (q : vn_ra Pd f) : vn_ra Pd g := by
  obtain ⟨p, m, a1, a2, a3, a4, a5⟩ := q
  exact ⟨p, m, by rw [← e 0 (by omega)]; exact a1, a2, a3, a4, fun k hk h4 => by rw [← e (k + 1) (by omega)]; exact a5 k hk h4⟩
theorem vn_T_db (T : vn_T h Pd cnt rr cm) (B : vm_bs c0 r0 m0 st sN tn cnt rr cm) (h65 : vx_J h 625 65 = c0) (c200 : cnt ≤ 200) : vn_db h Pd c0 r0 := by
  obtain ⟨b1, b2, _⟩ := B
  refine ⟨h65, by omega, fun i hi => ?_⟩
  have t := T.2.1 i (by omega)
  exact ⟨vn_ro_eq (b2 i hi).1 t.1, vn_ra_cg (b2 i hi).1 t.2.1⟩
/-- the rows when one more has come -/
theorem vn_addA (B : vm_bs c0 r0 m0 st sN tn cnt rr cm) (T : vn_T g Pd cnt rr cm) (hc : cnt ≤ 200) (hp : f 0 = p) (hst : (st p : Int) = sN) (hvr : vm_vr f) (j0 : vx_J g 625 68 = 0) (P : vn_cP Pd f cnt rr cm tn g h1) : vx_fr vn_Wt g h1 ∧ ∃ cnt1 rr1 cm1, vn_T h1 Pd cnt1 rr1 cm1 ∧ vm_bs c0 r0 m0 st sN tn cnt1 rr1 cm1 ∧ ((vx_J h1 625 68 = 0 ∧ cnt1 ≤ 200) ∨ (vx_J h1 625 68 ≠ 0 ∧ cnt1 = 201)) ∧ (∀ i, i < cnt1 → (∃ j, j < cnt ∧ vr_eq 5 (rr1 i) (rr j)) ∨ vr_eq 5 (rr1 i) f) ∧ (∀ i, i < cnt → ∃ j, j < cnt1 ∧ vr_eq 5 (rr1 j) (rr i)) ∧ ∃ j, j < cnt1 ∧ vr_eq 5 (rr1 j) f := by
  rcases P with ⟨rfl, i, i1, i2⟩ | ⟨F, no, T1, j1⟩
  · exact ⟨vx_fr_refl, cnt, rr, cm, T, B, Or.inl ⟨j0, hc⟩, fun i hi => Or.inl ⟨i, hi, fun _ _ => rfl⟩, fun i hi => ⟨i, hi, fun _ _ => rfl⟩, i, i1, i2⟩
  · have ra : ∀ i, i < cnt → vr_eq 5 (vr_ad rr cnt f i) (rr i) ∧ vm_cs cm cnt tn i = cm i := fun i hi => ⟨fun k _ => by rw [vr_ad_lt hi], if_neg (by omega)⟩
    obtain ⟨b1, b2, b3, b4⟩ := B
    refine ⟨F, cnt + 1, vr_ad rr cnt f, vm_cs cm cnt tn, T1, ⟨by omega, fun i hi => ?_, fun i hi1 hi2 => ?_, fun i hi => ?_⟩, ?_, fun i hi => ?_, fun i hi => ⟨i, by omega, (ra i hi).1⟩, cnt, by omega, fun k _ => by rw [vr_ad_eq]⟩
    · exact ⟨vr_eq_trans (ra i (by omega)).1 (b2 i hi).1, (ra i (by omega)).2.trans (b2 i hi).2⟩
    · by_cases e : i = cnt
      · rw [e]
        refine ⟨if_pos rfl, p, ?_, hst⟩
        rw [vr_ad_eq]; exact hp
      · have t := b3 i hi1 (by omega)
        rw [(ra i (by omega)).2, vr_ad_lt (show i < cnt by omega)]
        exact t
    · by_cases e : i = cnt
      · rw [e, vr_ad_eq]; exact hvr
      · rw [vr_ad_lt (show i < cnt by omega)]; exact b4 i (by omega)
    · rw [j1]
      by_cases e : cnt < 200
      · rw [if_pos e]; exact Or.inl ⟨rfl, by omega⟩
      · rw [if_neg e]; exact Or.inr ⟨by decide, by omega⟩
    · by_cases e : i = cnt
      · rw [e, vr_ad_eq]; exact Or.inr (fun _ _ => rfl)
      · exact Or.inl ⟨i, by omega, (ra i (by omega)).1⟩
theorem vn_HA (hp : R.1 = p) (pP : p < Pd.1) (hm : Pd.2.2 p = m) (ha : vz_aw R.2.2.2.1 false R.2.1) (ht : ∀ k, vz_tk (R.2.1 k)) (n8 : R.2.2.2.1 ≤ 8) (hst : (st p : Int) = sN) (hT0 : vm_cg 5 T0) (C0 : vn_cs h0 sd Pd) (H0 : vn_hd h0 c R m) (c61 : c < 61) (e67 : vx_J h0 625 67 = tn) (e65 : vx_J h0 625 65 = c0) (emk : mk = 0) :
    vn_HY c Pd R.2.2.2.2 jn js mk R.2.2.2.1 c0 r0 (vn_XA h0 Pd c0 r0 m0 st sN tn R T0) (vn_YA h0 Pd R T0) (vm_ZA 5 R T0) := by
  have w5 : vm_gw R = 5 := if_neg (by omega)
  have p16 : p < 16 := by have := C0.1.2.2.1; omega
  refine ⟨?_, ?_, ?_, ?_, ?_, ?_⟩
  · rintro l h h1 ⟨G, cnt, rr, cm, T, q⟩ F
    exact ⟨vx_fr_trans G (vx_fr_mono F (fun a k q => by omega)), cnt, rr, cm, vn_T_fr T F (fun a k q => by omega), q⟩
  · rintro l h h1 ⟨G, rr, cm, T, q⟩ F
    exact ⟨vx_fr_trans G (vx_fr_mono F (fun a k q => by omega)), rr, cm, vn_T_fr T F (fun a k q => by omega), q⟩
  · rintro l l' u (q | ⟨v, q1, q2⟩)
    · exact Or.inl q
    · exact Or.inr ⟨v, List.mem_append.mpr (Or.inl q1), q2⟩
  · rintro l h ⟨G, cnt, rr, cm, T, q1, q2, q3⟩
    exact vn_T_db T q2 ((vx_fr_J G (by omega)).trans e65) q1
  · rintro d l h u hT C ⟨G, cnt, rr, cm, T, q1, q2, q3⟩ j0 S bd
    have hv : ∀ i, i < R.2.2.2.1 → vz_va (u i) := fun i hi => ⟨_, (S i (by omega)).2 (by omega) (bd i hi)⟩
    have gv := vm_gl_vr (u := u) hp p16 ha ht hv
    have Ch := vn_cs_fr C0 G (fun a k q => by omega)
    have Hh := vn_hd_fr H0 G (fun a k q => by omega)
    have e66 := C.2.2.2.2
    refine vg_81 (d := d + 3) hT ⟨fun q => absurd (e66.trans emk) q, fun _ => vx_CV_mono (vc_85 (d := d + 1) hT Ch C.1.1 c61 Hh hp pP hm S (fun k => (ha k).2 rfl) (fun k _ i hi => bd i ((ha k).1 i hi)) T q1 ((vx_fr_J G (by omega)).trans e67)) ?_⟩
    rintro h1 ⟨g1, F1, P⟩ _
    have j0' : vx_J g1 625 68 = 0 := (vx_fr_J F1 (by omega)).trans j0
    obtain ⟨F6, cnt1, rr1, cm1, T1, B1, j1, a1, a2, a3⟩ := vn_addA q2 (vn_T_fr T F1 (fun a k q => by omega)) q1 gv.2 hst gv.1 j0' P
    have F16 : vx_fr (fun a k => a = 669 ∨ vn_Wt a k) h h1 := vx_fr_trans (vx_fr_mono F1 (fun a k q => Or.inl q)) (vx_fr_mono F6 (fun a k q => Or.inr q))
    have G6 : vx_fr vn_Wv h0 h1 := vx_fr_trans G (vx_fr_mono F16 (fun a k q => by omega))
    refine ⟨vx_fr_mono F16 (fun a k q => by omega), ?_⟩
    have snd : ∀ i, i < cnt1 → T0 (rr1 i) ∨ ∃ v, v ∈ l ++ [u] ∧ vr_eq 5 (rr1 i) (vm_gl R v) := by
      intro i hi
      rcases a1 i hi with ⟨j, t1, t2⟩ | t
      · rcases q3.1 j t1 with s | ⟨v, s1, s2⟩
        · exact Or.inl (hT0 _ _ (vr_eq_symm t2) s)
        · exact Or.inr ⟨v, List.mem_append.mpr (Or.inl s1), vr_eq_trans t2 s2⟩
      · exact Or.inr ⟨u, List.mem_append.mpr (Or.inr (List.mem_singleton.mpr rfl)), t⟩
    rcases j1 with ⟨j1, c1⟩ | ⟨j1, c1⟩
    · refine Or.inl ⟨j1, G6, cnt1, rr1, cm1, T1, c1, B1, snd, ?_⟩
      rintro f (s | ⟨v, s1, s2⟩)
      · obtain ⟨i, t1, t2⟩ := q3.2 f (Or.inl s)
        obtain ⟨j, t3, t4⟩ := a2 i t1
        exact ⟨j, t3, vr_eq_trans t4 t2⟩
      · rcases List.mem_append.mp s1 with s1 | s1
        · obtain ⟨i, t1, t2⟩ := q3.2 f (Or.inr ⟨v, s1, s2⟩)
          obtain ⟨j, t3, t4⟩ := a2 i t1
          exact ⟨j, t3, vr_eq_trans t4 t2⟩
        · rw [List.mem_singleton.mp s1] at s2
          obtain ⟨j, t3, t4⟩ := a3
          exact ⟨j, t3, vr_eq_trans t4 (vr_eq_symm s2)⟩
    · subst c1
      exact Or.inr ⟨j1, G6, rr1, cm1, T1, snd⟩
  · intro l v u hvu
    have ge := vm_gl_nv (R := R) ha hvu
    rw [w5] at ge
    exact Or.inr ⟨v, List.mem_append.mpr (Or.inr (List.mem_singleton.mpr rfl)), vr_eq_symm ge⟩
end
