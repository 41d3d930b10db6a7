/-! The model: the reference -/
abbrev vn_Wl (a k : Nat) : Prop := vn_Wr a k ∨ (a = 625 ∧ (k = 65 ∨ k = 67))
/-- behind a stratum -/
def vn_Is (S : vu_S) (st : Nat → Nat) (s N : Nat) (g : ve_H) : Prop := (vx_J g 625 68 = 0 ∧ ∃ cnt rr cm, vn_T g S.1 cnt rr cm ∧ cnt ≤ 200 ∧ vm_lb S st s cnt rr cm ∧ ∀ s', s' < s → vm_lg0 S st s') ∨ (vx_J g 625 68 ≠ 0 ∧ vm_big S st N)
def vn_If (S : vu_S) (st : Nat → Nat) (s c0 : Nat) (r0 : Nat → Nat → Int) (m0 : Nat → Int) (N i : Nat) (g : ve_H) : Prop := (vx_J g 625 68 = 0 ∧ ∃ cnt rr cm, vn_T g S.1 cnt rr cm ∧ cnt ≤ 200 ∧ vm_bs c0 r0 m0 st s 0 cnt rr cm ∧ (∀ j, j < cnt → vm_mt S st s 0 (rr j)) ∧ ∀ j, j < i → st (S.2.2.2.2.2 j 0).toNat = s → ∃ k, k < cnt ∧ vr_eq 5 (rr k) (S.2.2.2.2.2 j)) ∨ (vx_J g 625 68 ≠ 0 ∧ vm_big S st N)
section
variable {d c m p sd r s t N c0 cnt gc : Nat} {h h1 g : ve_H} {S : vu_S} {st : Nat → Nat} {rr r0 : Nat → Nat → Int} {cm m0 : Nat → Int} {x : Int}
theorem vc_90_116 {v1 : Int} (PG : vm_pg S st) (w3 : vu_w3 S) (hsN : s < N) (C : vn_pc h sd S st) (hv1 : v1 = s) (hN : N ≤ 17) (LB : ∀ s', s' < s → vm_lg0 S st s') :
    ∀ (m t : Nat) (g : ve_H) (v2 : Int) (v3 : Option Value), m = 203 - t → t ≤ 202 → (v2 = 0 ∨ v2 = 1) → vx_T 625 672 g → vx_fr vn_Wl h g → (vx_J g 625 68 = 0 → vx_J g 625 67 = t) → vn_It S st s t N v2 g → vx_W (d + 10 + 1) 90 116 [some (.ref 625), some (.int (vx_i v1)), some (.int (vx_i v2)), v3] [] g (vx_RV (fun h1 => vx_fr vn_Wl h h1 ∧ vn_Is S st (s + 1) N h1)) := by
  intro m
  induction m with
  | zero => intro t g v2 v3 hm ht; exact absurd hm (by omega)
  | succ m ih =>
    intro t g v2 v3 hm ht hv2 hT F h67 I
    rcases I with ⟨j0, cnt, rr, cm, T, hc, V, LG, alt⟩ | ⟨j1, b1⟩
    · refine vg_90_116 hT ⟨by omega, fun q => ⟨F, ?_⟩, fun q => ⟨fun q2 => absurd j0 q2, fun _ => ?_⟩⟩
      · have cl : 1 ≤ t ∧ ∀ f, vm_mt S st s t f → vm_mt S st s (t - 1) f := by
          rcases alt with ⟨a1, a2⟩ | ⟨a1, a2, a3⟩
          · omega
          · exact ⟨a2, a3⟩
        refine Or.inl ⟨j0, cnt, rr, cm, T, hc, ⟨fun f => ?_, V.2.1, fun i hi => ?_⟩, fun s' hs' => ?_⟩
        · rw [← V.1 f]
          constructor
          · rintro ⟨t', q⟩
            have c2 := cl.2
            have e : t = t - 1 + 1 := by omega
            rw [e] at c2
            have := vm_fix (t := t - 1) (f := f) c2 t' q
            exact vm_rd_mono (by omega) this
          · exact fun q => ⟨t, q⟩
        · obtain ⟨s', t', a1, a2, a3, a4, _⟩ := V.2.2 i hi
          exact ⟨s', t', a1, a2, a3, a4⟩
        · by_cases e : s' = s
          · rw [e]; exact LG cl.1
          · exact LB s' (by omega)
      · have t_c : t ≤ cnt := by
          rcases alt with ⟨_, a2⟩ | ⟨a1, _⟩
          · exact a2
          · omega
        have j67 := h67 j0
        rintro h4 e4 _ h5 e5 hT5
        rw [j67] at e4
        have e432 : vx_J h4 625 32 = cnt := by rw [e4, vx_J_ne (by omega)]; exact T.1
        rw [e432] at e5
        have F5 : vx_fr (fun a k => a = 625 ∧ (k = 65 ∨ k = 67)) g h5 := vx_fr_sJ (vx_fr_sJ vx_fr_refl e4 (by omega)) e5 (by omega)
        have FF : vx_fr vn_Wl h h5 := vx_fr_trans F (vx_fr_mono F5 (fun a k q => by omega))
        have C5 := vn_pc_fr C FF (fun a k q => by omega)
        have T5 : vn_T h5 S.1 cnt rr cm := vn_T_fr T F5 (fun a k q => by omega)
        have h565 : vx_J h5 625 65 = cnt := by rw [e5, vx_J_eq (by omega)]
        have h567 : vx_J h5 625 67 = (t : Int) + 1 := by rw [e5, vx_J_ne (by omega), e4, vx_J_eq (by omega)]
        have h568 : vx_J h5 625 68 = 0 := (vx_fr_J F5 (by omega)).trans j0
        rw [C5.1.2]
        refine vc_90_153 (d := d) (h := h5) (N := N) PG w3 hsN (by omega) t_c V C5 h565 h567 hv1 hN LG (fun g' v2' v3' hv2' hT' F' I' => ?_) S.2.2.1 0 h5 (30 * (sd : Int)) (by omega) (by omega) (by omega) hT5 vx_fr_refl (Or.inl ⟨h568, cnt, rr, cm, ⟨T5, hc, vm_bs_st V.2.1, fun i hi => vm_rd_mono (Nat.le_succ t) ((V.1 _).mpr ⟨i, hi, fun _ _ => rfl⟩)⟩, fun r' hr' => absurd hr' (by omega)⟩)
        refine ih (t + 1) g' v2' v3' (by omega) (by omega) hv2' hT' (vx_fr_trans FF (vx_fr_mono F' (fun a k q => Or.inl q))) (fun _ => ?_) I'
        rw [vx_fr_J F' (by omega), h567]; omega
    · have fin : vx_fr vn_Wl h g ∧ vn_Is S st (s + 1) N g := ⟨F, Or.inr ⟨j1, b1⟩⟩
      exact vg_90_116 hT ⟨by omega, fun _ => fin, fun _ => ⟨fun _ => fin, fun q => absurd q j1⟩⟩
theorem vc_90_71 {P : ve_H → Prop} {f : Nat → Int} {i : Nat} {v1 v2 : Int} (C : vn_pc h sd S st) (hi : i < S.2.2.2.2.1) (hv2 : v2 = ((400 * sd + i : Nat) : Int)) (T : vn_T h S.1 cnt rr cm) (c200 : cnt ≤ 200) (e67 : vx_J h 625 67 = 0)
    (K : ∀ g1 g2 v3, vx_fr (fun a _ => a = 669) h g1 → vn_cP S.1 (S.2.2.2.2.2 i) cnt rr cm 0 g1 g2 → vx_T 625 672 g2 → vx_W (d + 1 + 1) 90 14 [some (.ref 625), some (.int (vx_i v1)), some (.int (vx_i (v2 + 1))), v3] [] g2 (vx_RV P)) :
    ∀ (n k : Nat) (g : ve_H) (z : Int), n = 4 - k → k ≤ 4 → z = k → vx_T 625 672 g → vx_fr (fun a _ => a = 669) h g → (∀ k', k' < k → vx_K g 669 k' = vx_K h 649 (4 * (400 * sd + i) + k')) → vx_W (d + 1 + 1) 90 71 [some (.ref 625), some (.int (vx_i v1)), some (.int (vx_i v2)), some (.int (vx_i z))] [] g (vx_RV P) := by
  obtain ⟨n1, n2, n3, _⟩ := C.2.2.2.2
  obtain ⟨p, m, f1, f2, f3, f4, f5, f6, f7⟩ := n3 i hi
  have sd2 := C.1.1.1
  intro n
  induction n with
  | zero =>
    intro k g z hn hk hz hT F al
    have g48 : vx_J g 648 (400 * sd + i) = p := (vx_fr_J F (by omega)).trans f5
    refine vg_90_71 hT ⟨by omega, fun _ => ?_, fun q => absurd q (by omega)⟩
    rw [show v2.toNat = 400 * sd + i by omega, g48]
    refine ⟨by omega, vx_CV_mono (vc_84 (d := d) hT (vn_cs_fr C.1 F (fun a k q => by omega)) f1 rfl f2 f3 f4 ⟨fun k' h' => ?_, fun k' h' _ => f7 k' h'⟩ (vn_T_fr T F (fun a k q => by omega)) c200 ((vx_fr_J F (by omega)).trans e67)) ?_⟩
    · rw [al k' (by omega)]; exact f6 k' h'
    · intro h5 q hT5
      exact K g h5 _ F q hT5
  | succ n ih =>
    intro k g z hn hk hz hT F al
    refine vg_90_71 hT ⟨by omega, fun q => absurd q (by omega), fun _ => ⟨by omega, by omega, ?_⟩⟩
    rintro h9 e9 hT9
    rw [show z.toNat = k by omega, show (4 * v2 + z).toNat = 4 * (400 * sd + i) + k by omega, vx_fr_K F (by omega)] at e9
    refine ih (k + 1) h9 (z + 1) (by omega) (by omega) (by omega) hT9 (vx_fr_sK F e9 rfl) (fun k' h' => ?_)
    by_cases e : k' = k
    · rw [e, e9, vx_K_eq (vx_rL_K _ _ _)]
    · rw [e9, vx_K_ne (by omega)]; exact al k' (by omega)
abbrev vn_Wf (a k : Nat) : Prop := vn_Wt a k ∨ a = 669
theorem vc_90_14 {P : ve_H → Prop} {v1 : Int} (PG : vm_pg S st) (hsN : s < N) (V : vm_lb S st s c0 r0 m0) (C : vn_pc h sd S st) (hv1 : v1 = s) (hN : N ≤ 17) (e67 : vx_J h 625 67 = 0)
    (K : ∀ g v3, vx_T 625 672 g → vx_fr vn_Wf h g → vn_It S st s 0 N 1 g → vx_W (d + 1 + 1) 90 116 [some (.ref 625), some (.int (vx_i v1)), some (.int (vx_i 1)), v3] [] g (vx_RV P)) :
    ∀ (m i : Nat) (g : ve_H) (z : Int) (v3 : Option Value), m = S.2.2.2.2.1 - i → i ≤ S.2.2.2.2.1 → z = ((400 * sd + i : Nat) : Int) → vx_T 625 672 g → vx_fr vn_Wf h g → vn_If S st s c0 r0 m0 N i g → vx_W (d + 1 + 1) 90 14 [some (.ref 625), some (.int (vx_i v1)), some (.int (vx_i z)), v3] [] g (vx_RV P) := by
  have hW := vm_pg_W PG
  have sd2 := C.1.1.1
  have n200 := C.2.2.2.2.2.1
  intro m
  induction m with
  | zero =>
    intro i g z v3 hm hi hz hT F I
    have Cg := vn_pc_fr C F (fun a k q => by omega)
    have g47 := Cg.2.2.2.2.1
    have ei : i = S.2.2.2.2.1 := by omega
    refine vg_90_14 hT ?_
    rw [Cg.1.2, show ((sd : Nat) : Int).toNat = sd by omega, g47]
    refine ⟨by omega, by omega, by omega, fun _ => K g v3 hT F ?_, fun q => absurd q (by omega)⟩
    rcases I with ⟨j0, cnt, rr, cm, T, hc, B, q1, q2⟩ | I
    · refine Or.inl ⟨j0, cnt, rr, cm, T, hc, ⟨fun f => ⟨fun q => ?_, fun ⟨k, k1, k2⟩ => vm_rd_cg vm_ba_cg _ _ _ k2 (q1 k k1)⟩, B.2.2.2, fun k hk => ?_⟩, fun t => absurd t (by decide), Or.inl ⟨by decide, by omega⟩⟩
      · rcases (show vm_ba S st s f from q) with q | ⟨j, j1, j2, j3⟩
        · obtain ⟨k, k1, k2⟩ := (V.1 f).mp q
          exact ⟨k, by have := B.1; omega, vr_eq_trans (B.2.1 k k1).1 k2⟩
        · obtain ⟨k, k1, k2⟩ := q2 j (by omega) (by rw [j2 0 (by omega)]; exact j3)
          exact ⟨k, k1, vr_eq_trans k2 j2⟩
      · by_cases qk : k < c0
        · obtain ⟨s', t', a1, a2, a3, a4⟩ := V.2.2 k qk
          have e := (B.2.1 k qk).1
          have low : vm_ml S st s (r0 k) := (V.1 _).mpr ⟨k, qk, fun _ _ => rfl⟩
          have lt := vm_ml_lt hW s low
          refine ⟨s', t', by rw [e 0 (by omega)]; exact a1, by rw [(B.2.1 k qk).2]; exact a2, vm_rd_cg vm_ba_cg _ _ _ (vr_eq_symm e) a3, fun t'' ht t => a4 t'' ht (vm_rd_cg vm_ba_cg _ _ _ e t), fun t => by omega⟩
        · obtain ⟨b1, p, b2, b3⟩ := B.2.2.1 k (by omega) hk
          exact ⟨s, 0, by rw [b2, show ((p : Nat) : Int).toNat = p by omega]; omega, b1, q1 k hk, fun t'' ht => absurd ht (by omega), fun _ => Nat.le_refl _⟩
    · exact Or.inr I
  | succ m ih =>
    intro i g z v3 hm hi hz hT F I
    have hi' : i < S.2.2.2.2.1 := by omega
    have Cg := vn_pc_fr C F (fun a k q => by omega)
    have g47 := Cg.2.2.2.2.1
    obtain ⟨p, mm, f0, fp, _, _, _, fv, _⟩ := PG.1.2 i hi'
    have p16 : p < 16 := by have := PG.2.2.2.1; omega
    have g48 : vx_J g 648 (400 * sd + i) = p := by
      obtain ⟨p', m', a1, a2, a3, a4, a5, _⟩ := Cg.2.2.2.2.2.2.1 i hi'
      rw [a5]; omega
    have g34 := Cg.2.2.2.1 p p16
    refine vg_90_14 hT ?_
    rw [Cg.1.2, show ((sd : Nat) : Int).toNat = sd by omega, g47, show z.toNat = 400 * sd + i by omega, g48, show (16 * (sd : Int) + (p : Nat)).toNat = 16 * sd + p by omega, g34]
    refine ⟨by omega, by omega, by omega, fun q => absurd q (by omega), fun _ => ⟨fun jq => K g v3 hT F ?_, fun jq => ⟨by omega, by omega, by omega, fun q => ?_, fun q => ?_⟩⟩⟩
    · rcases I with ⟨j0, _⟩ | I
      · exact absurd j0 jq
      · exact Or.inr I
    · obtain ⟨cnt, rr, cm, T, hc, B, q1, q2⟩ : ∃ cnt rr cm, vn_T g S.1 cnt rr cm ∧ cnt ≤ 200 ∧ vm_bs c0 r0 m0 st s 0 cnt rr cm ∧ (∀ j, j < cnt → vm_mt S st s 0 (rr j)) ∧ ∀ j, j < i → st (S.2.2.2.2.2 j 0).toNat = s → ∃ k, k < cnt ∧ vr_eq 5 (rr k) (S.2.2.2.2.2 j) := by
        rcases I with ⟨_, I⟩ | ⟨j1, _⟩
        · exact I
        · exact absurd jq j1
      have fmt : vm_mt S st s 0 (S.2.2.2.2.2 i) := Or.inr ⟨i, hi', fun _ _ => rfl, by rw [f0, show ((p : Nat) : Int).toNat = p by omega]; omega⟩
      refine vc_90_71 (d := d) (f := S.2.2.2.2.2 i) Cg hi' hz T hc ((vx_fr_J F (by omega)).trans e67) ?_ 4 0 g 0 rfl (by omega) rfl hT vx_fr_refl (fun k' h' => absurd h' (by omega))
      intro g1 g2 v3' F1 cp hT2
      obtain ⟨F2, cnt1, rr1, cm1, T1, B1, j1, a1, a2, a3⟩ := vn_addA (sN := s) B (vn_T_fr T F1 (fun a k q => by omega)) hc f0 (by omega) ⟨⟨p, f0, p16⟩, fun k _ => fv k⟩ ((vx_fr_J F1 (by omega)).trans jq) cp
      have FF : vx_fr vn_Wf h g2 := vx_fr_trans F (vx_fr_trans (vx_fr_mono F1 (fun a k q => Or.inr q)) (vx_fr_mono F2 (fun a k q => Or.inl q)))
      have mt1 : ∀ k, k < cnt1 → vm_mt S st s 0 (rr1 k) := fun k hk => by
        rcases a1 k hk with ⟨j, t1, t2⟩ | t
        · exact vm_rd_cg vm_ba_cg _ _ _ (vr_eq_symm t2) (q1 j t1)
        · exact vm_rd_cg vm_ba_cg _ _ _ (vr_eq_symm t) fmt
      refine ih (i + 1) g2 (z + 1) v3' (by omega) (by omega) (by omega) hT2 FF ?_
      rcases j1 with ⟨j1, c1⟩ | ⟨j1, c1⟩
      · refine Or.inl ⟨j1, cnt1, rr1, cm1, T1, c1, B1, mt1, fun j hj hs => ?_⟩
        by_cases qj : j = i
        · rw [qj]; exact a3
        · obtain ⟨k, k1, k2⟩ := q2 j (by omega) hs
          obtain ⟨k', k3, k4⟩ := a2 k k1
          exact ⟨k', k3, vr_eq_trans k4 k2⟩
      · subst c1
        exact Or.inr ⟨j1, Or.inl ⟨s, 0, rr1, hsN, mt1, T1.2.2⟩⟩
    · refine ih (i + 1) g (z + 1) v3 (by omega) (by omega) (by omega) hT F ?_
      rcases I with ⟨j0, cnt, rr, cm, T, hc, B, q1, q2⟩ | I
      · refine Or.inl ⟨j0, cnt, rr, cm, T, hc, B, q1, fun j hj hs => ?_⟩
        by_cases qj : j = i
        · exfalso
          rw [qj, f0, show ((p : Nat) : Int).toNat = p by omega] at hs
          omega
        · exact q2 j (by omega) hs
      · exact Or.inr I
theorem vc_90 (PG : vm_pg S st) (w3 : vu_w3 S) (hsN : s < N) (hN : N ≤ 17) (C : vn_pc h sd S st) (hx : x = s) (hT : vx_T 625 672 h) (j0 : vx_J h 625 68 = 0) (I : vn_Is S st s N h) : vx_CV (d + 11) 90 [.ref 625, .int (vx_i x)] h (fun h1 => vx_fr vn_Wl h h1 ∧ vn_Is S st (s + 1) N h1) := by
  obtain ⟨c0, r0, m0, T, hc, V, LB⟩ : ∃ cnt rr cm, vn_T h S.1 cnt rr cm ∧ cnt ≤ 200 ∧ vm_lb S st s cnt rr cm ∧ ∀ s', s' < s → vm_lg0 S st s' := by
    rcases I with ⟨_, I⟩ | ⟨j1, _⟩
    · exact I
    · exact absurd j0 j1
  refine vg_90 (d := d + 10) hT (fun g1 e1 hT1 => ?_)
  have F1 : vx_fr (fun a k => a = 625 ∧ k = 67) h g1 := vx_fr_sJ vx_fr_refl e1 ⟨rfl, rfl⟩
  have C1 := vn_pc_fr C F1 (fun a k q => by omega)
  have j67 : vx_J g1 625 67 = 0 := by rw [e1, vx_J_eq (by decide)]
  rw [C1.1.2]
  refine vc_90_14 (d := d + 9) (N := N) PG hsN V C1 hx hN j67 (fun g v3 hT' F' I' => ?_) S.2.2.2.2.1 0 g1 (400 * (sd : Int)) none (by omega) (by omega) (by omega) hT1 vx_fr_refl (Or.inl ⟨(vx_fr_J F1 (by omega)).trans j0, c0, r0, m0, vn_T_fr T F1 (fun a k q => by omega), hc, vm_bs_st V.2.1, fun j hj => Or.inl ((V.1 _).mpr ⟨j, hj, fun _ _ => rfl⟩), fun j hj => absurd hj (by omega)⟩)
  refine vc_90_116 (d := d) (N := N) PG w3 hsN C hx hN LB 203 0 g 1 v3 rfl (by omega) (Or.inr rfl) hT' (vx_fr_trans (vx_fr_mono F1 (fun a k q => by omega)) (vx_fr_mono F' (fun a k q => by omega))) (fun _ => ?_) I'
  rw [vx_fr_J F' (by omega)]; exact j67
/-- how many strata there are -/
theorem vc_89 (C : vn_pc h sd S st) (hT : vx_T 625 672 h) (s16 : ∀ p, p < 16 → st p ≤ 16) : vx_CI d 89 [.ref 625] h (fun r h1 => h1 = h ∧ r = (vs_ns st S.1.1 : Nat)) := by
  have sd2 := C.1.1.1
  have P16 := C.1.1.2.2.1
  have LOOP : ∀ (m p : Nat) (v z : Int), m = S.1.1 - p → p ≤ S.1.1 → z = ((16 * sd + p : Nat) : Int) → v = (vs_ns st p : Nat) - 1 → vs_ns st p ≤ 17 → vx_W d 89 10 [some (.ref 625), some (.int (vx_i v)), some (.int (vx_i z))] [] h (vx_RI (fun r h1 => h1 = h ∧ r = (vs_ns st S.1.1 : Nat))) := by
    intro m
    induction m with
    | zero =>
      intro p v z hm hp hz hv n17
      have ep : p = S.1.1 := by omega
      subst ep
      refine vg_89_10 hT ?_
      rw [C.1.2, show ((sd : Nat) : Int).toNat = sd by omega, C.1.1.2.1]
      exact ⟨by omega, by omega, by omega, fun _ => ⟨by omega, rfl, by omega⟩, fun q => absurd q (by omega)⟩
    | succ m ih =>
      intro p v z hm hp hz hv n17
      have e34 := C.2.2.2.1 p (by omega)
      have sp := s16 p (by omega)
      have en : vs_ns st (p + 1) = max (vs_ns st p) (st p + 1) := rfl
      refine vg_89_10 hT ?_
      rw [C.1.2, show ((sd : Nat) : Int).toNat = sd by omega, C.1.1.2.1, show z.toNat = 16 * sd + p by omega, e34]
      exact ⟨by omega, by omega, by omega, fun q => absurd q (by omega), fun _ => ⟨by omega, by omega, fun q => ih (p + 1) v (z + 1) (by omega) (by omega) (by omega) (by rw [en]; omega) (by rw [en]; omega), fun q => ⟨by omega, ih (p + 1) _ (z + 1) (by omega) (by omega) (by omega) (by rw [en]; omega) (by rw [en]; omega)⟩⟩⟩
  refine vg_89 hT ?_
  rw [C.1.2]
  exact LOOP S.1.1 0 (-1) (16 * (sd : Int)) (by omega) (by omega) (by omega) rfl (by show (0 : Nat) ≤ 17; omega)
end
