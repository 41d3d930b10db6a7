/-! solve: the reference; models agree -/
abbrev vn_Wo (a k : Nat) : Prop := vn_Wl a k ∨ (a = 625 ∧ (k = 0 ∨ k = 31 ∨ k = 36))
/-- how the making of a model ends -/
def vn_mP (S : vu_S) (st : Nat → Nat) (N : Nat) (h : ve_H) (r : Int) (h1 : ve_H) : Prop := vx_fr (fun a k => vn_Wl a k ∨ (a = 625 ∧ (k = 0 ∨ k = 31))) h h1 ∧ ((vx_J h1 625 0 = vx_J h 625 0 ∧ vx_J h1 625 31 = 1 ∧ ∃ cnt rr cm, r = (cnt : Nat) ∧ vn_T h1 S.1 cnt rr cm ∧ cnt ≤ 200 ∧ vm_lb S st N cnt rr cm ∧ ∀ s, s < N → vm_lg0 S st s) ∨ (vx_J h1 625 0 = 1 ∧ vx_J h1 625 31 = 2 ∧ vx_J h1 625 32 = 0 ∧ vm_big S st N))
/-- how solve ends -/
def vn_sP (S : vu_S) (st : Nat → Nat) (N : Nat) (h : ve_H) (r : Int) (h1 : ve_H) : Prop := ((vx_J h 625 31 = 2 ∨ (vx_J h 625 31 = 0 ∧ vx_J h 625 36 = 40)) ∧ vx_fr (fun a k => a = 625 ∧ k = 0) h h1 ∧ vx_J h1 625 0 = 1) ∨ (vx_J h 625 31 = 1 ∧ r = vx_J h 625 32 ∧ vx_fr (fun a k => a = 625 ∧ k = 0) h h1 ∧ vx_J h1 625 0 = 0) ∨ (vx_J h 625 31 = 0 ∧ vx_J h 625 36 ≠ 40 ∧ vx_fr vn_Wo h h1 ∧ vx_J h1 625 36 = vx_J h 625 36 + 1 ∧ ((vx_J h1 625 0 = 0 ∧ vx_J h1 625 31 = 1 ∧ ∃ cnt rr cm, r = (cnt : Nat) ∧ vn_T h1 S.1 cnt rr cm ∧ cnt ≤ 200 ∧ vm_lb S st N cnt rr cm ∧ ∀ s, s < N → vm_lg0 S st s) ∨ (vx_J h1 625 0 = 1 ∧ vx_J h1 625 31 = 2 ∧ vx_J h1 625 32 = 0 ∧ vm_big S st N)))
section
variable {d sd s N cnt : Nat} {h h1 g : ve_H} {S : vu_S} {st : Nat → Nat} {rr : Nat → Nat → Int} {cm : Nat → Int}
theorem vc_91_82 (PG : vm_pg S st) (w3 : vu_w3 S) (hN : N ≤ 17) (C : vn_pc h sd S st) {v1 : Int} (hv1 : v1 = N) :
    ∀ (m s : Nat) (g : ve_H) (z : Int), m = N - s → s ≤ N → z = s → vx_T 625 672 g → vx_fr vn_Wl h g → vn_Is S st s N g → vx_W (d + 11 + 1) 91 82 [some (.ref 625), some (.int (vx_i v1)), some (.int (vx_i z))] [] g (vx_RI (vn_mP S st N h)) := by
  have endB : ∀ (g h9 : ve_H), vx_fr vn_Wl h g → vx_J g 625 68 ≠ 0 → vm_big S st N → h9 = vx_sJ g 625 31 2 → (vx_J h9 625 68 = 0 → vn_mP S st N h (vx_J h9 625 32) h9) ∧ (vx_J h9 625 68 ≠ 0 → ∀ h11, h11 = vx_sJ h9 625 32 0 → vx_T 625 672 h11 → vx_CI (d + 11) 20 [.ref 625, .int (vx_i 1)] h11 (fun r12 h12 => vx_T 625 672 h12 → vn_mP S st N h r12 h12)) := by
    intro g h9 F j1 big e9
    have j9 : vx_J h9 625 68 ≠ 0 := by rw [e9, vx_J_ne (by omega)]; exact j1
    refine ⟨fun q => absurd q j9, fun _ h11 e11 hT11 => vx_CI_mono (vc_20 hT11 (by decide)) ?_⟩
    rintro r12 h12 _ ⟨_, F12, j12⟩ _
    have F11 : vx_fr (fun a k => vn_Wl a k ∨ (a = 625 ∧ (k = 0 ∨ k = 31))) h h11 := vx_fr_sJ (vx_fr_sJ (vx_fr_mono F (fun a k q => Or.inl q)) e9 (by omega)) e11 (by omega)
    refine ⟨vx_fr_trans F11 (vx_fr_mono F12 (fun a k q => by omega)), Or.inr ⟨j12, ?_, ?_, big⟩⟩
    · rw [vx_fr_J F12 (by omega), e11, vx_J_ne (by omega), e9, vx_J_eq (by decide)]
    · rw [vx_fr_J F12 (by omega), e11, vx_J_eq (by decide)]
  intro m
  induction m with
  | zero =>
    intro s g z hm hs hz hT F I
    have es : s = N := by omega
    subst es
    refine vg_91_82 hT ⟨by omega, by omega, fun _ => ⟨fun q => ?_, fun q => ?_⟩, fun q => absurd q (by omega)⟩
    · rintro h5 e5 _
      have j5 : vx_J h5 625 68 = 0 := by rw [e5, vx_J_ne (by omega)]; exact q
      refine ⟨fun _ => ?_, fun q => absurd j5 q⟩
      rcases I with ⟨_, cnt, rr, cm, T, hc, V, LG⟩ | ⟨j1, _⟩
      · have F5 : vx_fr (fun a k => a = 625 ∧ k = 31) g h5 := vx_fr_sJ vx_fr_refl e5 ⟨rfl, rfl⟩
        have T5 := vn_T_fr T F5 (fun a k q => by omega)
        exact ⟨vx_fr_trans (vx_fr_mono F (fun a k q => Or.inl q)) (vx_fr_mono F5 (fun a k q => by omega)), Or.inl ⟨(vx_fr_J F5 (by omega)).trans (vx_fr_J F (by omega)), by rw [e5, vx_J_eq (by decide)], cnt, rr, cm, T5.1, T5, hc, V, LG⟩⟩
      · exact absurd q j1
    · rintro h9 e9 _
      rcases I with ⟨j0, _⟩ | ⟨j1, big⟩
      · exact absurd j0 q
      · exact endB g h9 F j1 big e9
  | succ m ih =>
    intro s g z hm hs hz hT F I
    refine vg_91_82 hT ⟨by omega, by omega, fun q => absurd q (by omega), fun _ => ⟨fun q => ?_, fun q => ?_⟩⟩
    · rintro h9 e9 _
      rcases I with ⟨j0, _⟩ | ⟨j1, big⟩
      · exact absurd j0 q
      · exact endB g h9 F j1 big e9
    · refine vx_CV_mono (vc_90 (d := d) (N := N) PG w3 (by omega) hN (vn_pc_fr C F (fun a k q => by omega)) hz hT q I) ?_
      rintro h18 ⟨F18, I18⟩ hT18
      exact ih (s + 1) h18 (z + 1) (by omega) (by omega) (by omega) hT18 (vx_fr_trans F F18) I18
theorem vc_91 (PG : vm_pg S st) (w3 : vu_w3 S) (eN : N = vs_ns st S.1.1) (hN : N ≤ 17) (C : vn_pc h sd S st) (hT : vx_T 625 672 h) (s3 : vx_J h 625 31 = 0 ∨ vx_J h 625 31 = 1 ∨ vx_J h 625 31 = 2) (m40 : 0 ≤ vx_J h 625 36 ∧ vx_J h 625 36 ≤ 40) : vx_CI (d + 12) 91 [.ref 625] h (vn_sP S st N h) := by
  have s16 := PG.2.2.1
  refine vg_91 (d := d + 11) hT ⟨fun q => ?_, fun q => ⟨fun q2 => ?_, fun q2 => ⟨fun q3 => ?_, fun q3 => ?_⟩⟩⟩
  · rintro h2 e2 _
    exact Or.inl ⟨Or.inl q, vx_fr_sJ vx_fr_refl e2 ⟨rfl, rfl⟩, by rw [e2, vx_J_eq (by decide)]⟩
  · rintro h4 e4 _
    have F4 : vx_fr (fun a k => a = 625 ∧ k = 0) h h4 := vx_fr_sJ vx_fr_refl e4 ⟨rfl, rfl⟩
    have j31 : vx_J h4 625 31 = 1 := by rw [vx_fr_J F4 (by omega)]; omega
    refine ⟨fun t => absurd j31 t, fun _ => Or.inr (Or.inl ⟨by omega, vx_fr_J F4 (by omega), F4, by rw [e4, vx_J_eq (by decide)]⟩)⟩
  · rintro h11 e11 _
    have F11 : vx_fr (fun a k => a = 625 ∧ k = 0) h h11 := vx_fr_sJ vx_fr_refl e11 ⟨rfl, rfl⟩
    have j31 : vx_J h11 625 31 = 0 := by rw [vx_fr_J F11 (by omega)]; exact q2
    have j36 : vx_J h11 625 36 = vx_J h 625 36 := vx_fr_J F11 (by omega)
    refine ⟨fun _ => ?_, fun t => absurd t (by omega)⟩
    rintro h13 e13 _ h14 e14 _ h15 e15 hT15
    rw [j36] at e13
    have F15 : vx_fr (fun a k => a = 625 ∧ (k = 0 ∨ k = 36 ∨ k = 32 ∨ k = 68)) h h15 := vx_fr_sJ (vx_fr_sJ (vx_fr_sJ (vx_fr_mono F11 (fun a k q => by omega)) e13 (by omega)) e14 (by omega)) e15 (by omega)
    have C15 := vn_pc_fr C F15 (fun a k q => by omega)
    have k32 : vx_J h15 625 32 = 0 := by rw [e15, vx_J_ne (by omega), e14, vx_J_eq (by decide)]
    have k68 : vx_J h15 625 68 = 0 := by rw [e15, vx_J_eq (by decide)]
    have k36 : vx_J h15 625 36 = vx_J h 625 36 + 1 := by rw [e15, vx_J_ne (by omega), e14, vx_J_ne (by omega), e13, vx_J_eq (by omega)]
    have k0 : vx_J h15 625 0 = 0 := by rw [e15, vx_J_ne (by omega), e14, vx_J_ne (by omega), e13, vx_J_ne (by omega), e11, vx_J_eq (by decide)]
    refine vx_CI_mono (vc_89 C15 hT15 s16) ?_
    rintro r16 h16 _ ⟨rfl, e16⟩ _
    rw [← eN] at e16
    refine vx_mono (vc_91_82 (d := d) PG w3 hN C15 e16 N 0 h16 0 rfl (by omega) rfl hT15 vx_fr_refl (Or.inl ⟨k68, 0, fun _ _ => 0, fun _ => 0, ⟨k32, fun i hi => absurd hi (by omega), fun i j hi => absurd hi (by omega)⟩, by omega, ⟨fun f => ⟨fun q => absurd q (fun t => t), fun ⟨i, i1, _⟩ => absurd i1 (by omega)⟩, fun i hi => absurd hi (by omega), fun i hi => absurd hi (by omega)⟩, fun s' hs' => absurd hs' (by omega)⟩)) ?_
    rintro o h1 ⟨x, ex, rx, F1, q1⟩
    refine ⟨x, ex, rx, Or.inr (Or.inr ⟨q2, q3, vx_fr_trans (vx_fr_mono F15 (fun a k q => by omega)) (vx_fr_mono F1 (fun a k q => by omega)), (vx_fr_J F1 (by omega)).trans k36, ?_⟩)⟩
    rcases q1 with ⟨a1, a2⟩ | a
    · exact Or.inl ⟨a1.trans k0, a2⟩
    · exact Or.inr a
  · rintro h17 e17 _
    exact Or.inl ⟨Or.inr ⟨q2, q3⟩, vx_fr_sJ vx_fr_refl e17 ⟨rfl, rfl⟩, by rw [e17, vx_J_eq (by decide)]⟩
/-- a total of something is something -/
theorem vm_am_some {kd : Int} : ∀ (ws : List Int), ws ≠ [] → ∃ a, vm_am kd ws = some a := by
  have f : ∀ (ws : List Int) (a : Int), ∃ b, ws.foldl (vm_o1 kd) (some a) = some b := by
    intro ws
    induction ws with
    | nil => intro a; exact ⟨a, rfl⟩
    | cons w ws ih => intro a; exact ih _
  intro ws hw
  cases ws with
  | nil => exact absurd rfl hw
  | cons w ws => exact f ws _
theorem vm_mt_N {t : Nat} {f : Nat → Int} (hs : s < N) (q : vm_mt S st s t f) : vm_ml S st N f := vm_ml_mono (show s + 1 ≤ N from hs) (vm_mt_ml q)
/-- not more than 200 different rows of what is listed -/
theorem vm_pigN {f : Nat → Nat → Int} (V : ∀ f, vm_ml S st N f → ∃ i, i < cnt ∧ vr_eq 5 (rr i) f) (n : Nat) (m : ∀ i, i < n → vm_ml S st N (f i)) (inj : ∀ i j, i < n → j < n → vr_eq 5 (f i) (f j) → i = j) : n ≤ cnt := by
  have c : ∀ i, ∃ k, i < n → k < cnt ∧ vr_eq 5 (rr k) (f i) := fun i => by
    by_cases hi : i < n
    · obtain ⟨k, k1, k2⟩ := V _ (m i hi)
      exact ⟨k, fun _ => ⟨k1, k2⟩⟩
    · exact ⟨0, fun t => absurd t hi⟩
  refine vr_pig n cnt (fun i => (c i).choose) (fun i hi => ((c i).choose_spec hi).1) (fun i j hi hj e => inj i j hi hj ?_)
  have a := ((c i).choose_spec hi).2
  have b := ((c j).choose_spec hj).2
  have e' : (c i).choose = (c j).choose := e
  rw [e'] at a
  exact vr_eq_trans (vr_eq_symm a) b
/-- a model that was made isn't too big -/
theorem vm_notbig (PG : vm_pg S st) (V : ∀ f, vm_ml S st N f → ∃ i, i < cnt ∧ vr_eq 5 (rr i) f) (hc : cnt ≤ 200) (LG : ∀ s, s < N → vm_lg0 S st s) (big : vm_big S st N) : False := by
  rcases big with ⟨s, t, f, hs, f1, f2⟩ | ⟨s, r, us, hs, hr, hst, hO, u1, u2⟩
  · have := vm_pigN V 201 (fun i hi => vm_mt_N hs (f1 i hi)) f2
    omega
  · obtain ⟨R, eR⟩ : ∃ R, S.2.2.2.1 r = R := ⟨_, rfl⟩
    obtain ⟨l, lg⟩ := LG s hs r hr hst hO
    have W := PG.1.1 r hr
    rw [eR] at W hst hO u1 u2 lg
    obtain ⟨p, m, p1, p2, _⟩ := W.2.2.2.2.2.2.1
    have key : ∀ i, ∃ f : Nat → Int, i < 201 → vm_ml S st N f ∧ ∃ a, vr_eq 5 f (vm_tr R (us i) a) := fun i => by
      by_cases hi : i < 201
      · obtain ⟨w, w1, w2⟩ := lg.2.1 _ (u1 i hi)
        have ne : vm_ws R (vm_kt R) l (vm_ky R (vm_kt R) w) ≠ [] := by
          intro t
          unfold vm_ws at t
          have t2 := List.map_eq_nil_iff.mp t
          rw [List.filter_eq_nil_iff] at t2
          exact t2 w w1 (decide_eq_true (fun _ _ => rfl))
        obtain ⟨a, ea⟩ := vm_am_some (kd := R.2.2.1.1) _ ne
        refine ⟨vm_tr R w a, fun _ => ⟨vm_mt_N (t := 1) hs (Or.inr ⟨r, hr, by rw [eR]; exact hst, by rw [eR]; exact Or.inr ⟨hO, rfl, l, lg, w, w1, a, ea, fun _ _ => rfl⟩⟩), a, fun k hk => ?_⟩⟩
        unfold vm_tr
        by_cases q : k = vm_kt R + 1
        · rw [if_pos q, if_pos q]
        · rw [if_neg q, if_neg q]
          exact (vm_ky_nv (by omega) W.2.2.2.2.1 w2).1 k hk
      · exact ⟨fun _ => 0, fun t => absurd t hi⟩
    have := vm_pigN (f := fun i => (key i).choose) V 201 (fun i hi => ((key i).choose_spec hi).1) (fun i j hi hj e => by
      obtain ⟨a, ha⟩ := ((key i).choose_spec hi).2
      obtain ⟨b, hb⟩ := ((key j).choose_spec hj).2
      have t := vr_eq_trans (vr_eq_symm ha) (vr_eq_trans e hb)
      refine u2 i j hi hj (fun k hk => ?_)
      by_cases q : k = vm_kt R + 1
      · rw [q, vm_ky_z, vm_ky_z]
      · have tk := t k hk
        unfold vm_tr at tk
        rw [if_neg q, if_neg q] at tk
        exact tk)
    omega
/-- two listings of one model -/
theorem vm_agree {cnt2 : Nat} {rr2 : Nat → Nat → Int} {cm2 : Nat → Int} (V : vm_lb S st N cnt rr cm) (D : ∀ i j, i < cnt → j < cnt → vr_eq 5 (rr i) (rr j) → i = j) (V2 : vm_lb S st N cnt2 rr2 cm2) (D2 : ∀ i j, i < cnt2 → j < cnt2 → vr_eq 5 (rr2 i) (rr2 j) → i = j) : cnt = cnt2 ∧ ∀ i, i < cnt → ∃ j, j < cnt2 ∧ vr_eq 5 (rr i) (rr2 j) ∧ cm i = cm2 j := by
  have a := vm_pigN (S := S) (st := st) (N := N) (cnt := cnt2) (rr := rr2) (f := rr) (fun f q => (V2.1 f).mp q) cnt (fun i hi => (V.1 _).mpr ⟨i, hi, fun _ _ => rfl⟩) D
  have b := vm_pigN (S := S) (st := st) (N := N) (cnt := cnt) (rr := rr) (f := rr2) (fun f q => (V.1 f).mp q) cnt2 (fun i hi => (V2.1 _).mpr ⟨i, hi, fun _ _ => rfl⟩) D2
  refine ⟨by omega, fun i hi => ?_⟩
  obtain ⟨j, j1, j2⟩ := (V2.1 _).mp ((V.1 (rr i)).mpr ⟨i, hi, fun _ _ => rfl⟩)
  refine ⟨j, j1, vr_eq_symm j2, ?_⟩
  obtain ⟨s1, t1, a1, a2, a3, a4⟩ := V.2.2 i hi
  obtain ⟨s2, t2, b1, b2, b3, b4⟩ := V2.2.2 j j1
  have es : s1 = s2 := by rw [← a1, ← b1, j2 0 (by omega)]
  subst es
  have c1 := vm_rd_cg vm_ba_cg _ _ _ j2 b3
  have c2 := vm_rd_cg vm_ba_cg _ _ _ (vr_eq_symm j2) a3
  have n1 : ¬ t2 < t1 := fun t => a4 t2 t c1
  have n2 : ¬ t1 < t2 := fun t => b4 t1 t c2
  rw [a2, b2]; omega
end
