/-! Rows of the reference: a row comes; a clause without a total -/
/-- the side, and its predicates -/
def vn_cs (h : ve_H) (sd : Nat) (Pd : vy_V) : Prop := vy_rp h sd Pd ∧ vx_J h 625 11 = sd
/-- the rows -/
def vn_T (h : ve_H) (Pd : vy_V) (cnt : Nat) (rr : Nat → Nat → Int) (cm : Nat → Int) : Prop := vx_J h 625 32 = cnt ∧ (∀ i, i < cnt → vn_ro h i (rr i) ∧ vn_ra Pd (rr i) ∧ vx_J h 651 i = cm i) ∧ ∀ i j, i < cnt → j < cnt → vr_eq 5 (rr i) (rr j) → i = j
/-- the row that is given -/
def vn_gv (h : ve_H) (m : Nat) (f : Nat → Int) : Prop := (∀ k, k < m → vy_vr (f (k + 1)) (vx_K h 669 k)) ∧ ∀ k, m ≤ k → k < 4 → f (k + 1) = 0
/-- a head -/
def vn_hd (h : ve_H) (c : Nat) (R : vu_R) (m : Nat) : Prop := vx_J h 636 c = R.1 ∧ m ≤ 4 ∧ (∀ k, k < m → vy_tr (R.2.1 k) (vx_J h 637 (4 * c + k)) (vx_K h 638 (4 * c + k))) ∧ ∀ k, m ≤ k → R.2.1 k = 0
abbrev vn_Wt (a k : Nat) : Prop := (a = 625 ∧ (k = 32 ∨ k = 68)) ∨ a = 650 ∨ a = 651 ∨ a = 652
section
variable {d c m p sd cnt : Nat} {h h1 g : ve_H} {Pd : vy_V} {R : vu_R} {u f : Nat → Int} {rr : Nat → Nat → Int} {cm : Nat → Int} {x tn : Int}
theorem vn_cs_fr {S : Nat → Nat → Prop} (C : vn_cs h sd Pd) (F : vx_fr S h h1) (hs : ∀ a k, S a k → a ≠ 631 ∧ a ≠ 632 ∧ a ≠ 633 ∧ (a = 625 → k ≠ 11)) : vn_cs h1 sd Pd := by
  obtain ⟨⟨a1, a2, a3, a4⟩, a5⟩ := C
  refine ⟨⟨a1, (vx_fr_J F (fun q => (hs _ _ q).1 rfl)).trans a2, a3, fun p hp => ?_⟩, (vx_fr_J F (fun q => (hs _ _ q).2.2.2 rfl rfl)).trans a5⟩
  rw [vx_fr_K F (fun q => (hs _ _ q).2.1 rfl), vx_fr_J F (fun q => (hs _ _ q).2.2.1 rfl)]
  exact a4 p hp
theorem vn_T_fr {S : Nat → Nat → Prop} (C : vn_T h Pd cnt rr cm) (F : vx_fr S h h1) (hs : ∀ a k, S a k → a ≠ 650 ∧ a ≠ 651 ∧ a ≠ 652 ∧ (a = 625 → k ≠ 32)) : vn_T h1 Pd cnt rr cm := by
  obtain ⟨a1, a2, a3⟩ := C
  refine ⟨(vx_fr_J F (fun q => (hs _ _ q).2.2.2 rfl rfl)).trans a1, fun i hi => ?_, a3⟩
  obtain ⟨⟨b1, b2⟩, b3, b4⟩ := a2 i hi
  refine ⟨⟨(vx_fr_J F (fun q => (hs _ _ q).1 rfl)).trans b1, fun k hk => ?_⟩, b3, (vx_fr_J F (fun q => (hs _ _ q).2.1 rfl)).trans b4⟩
  rw [vx_fr_K F (fun q => (hs _ _ q).2.2.1 rfl)]; exact b2 k hk
theorem vn_gv_fr {S : Nat → Nat → Prop} (C : vn_gv h m f) (F : vx_fr S h h1) (hs : ∀ k, ¬ S 669 k) : vn_gv h1 m f := ⟨fun k hk => by rw [vx_fr_K F (hs k)]; exact C.1 k hk, C.2⟩
theorem vn_hd_fr {S : Nat → Nat → Prop} (C : vn_hd h c R m) (F : vx_fr S h h1) (hs : ∀ a k, S a k → a ≠ 636 ∧ a ≠ 637 ∧ a ≠ 638) : vn_hd h1 c R m := ⟨(vx_fr_J F (fun q => (hs _ _ q).1 rfl)).trans C.1, C.2.1, fun k hk => by rw [vx_fr_J F (fun q => (hs _ _ q).2.1 rfl), vx_fr_K F (fun q => (hs _ _ q).2.2 rfl)]; exact C.2.2.1 k hk, C.2.2.2⟩
theorem vc_83 (hT : vx_T 625 672 h) (C : vn_cs h sd Pd) (hp : p < Pd.1) (hx : x = p) : vx_CI d 83 [.ref 625, .int (vx_i x)] h (fun r h1 => h1 = h ∧ r = Pd.2.2 p) := by
  obtain ⟨⟨a1, a2, a3, a4⟩, a5⟩ := C
  refine vg_83 hT ?_
  rw [a5, show (16 * (sd : Int) + x).toNat = 16 * sd + p by omega]
  exact ⟨by omega, rfl, (a4 p hp).2.2⟩
theorem vc_82 {k : Nat} (hT : vx_T 625 672 h) (h42 : vx_J h 625 42 = c) (hc : c < 61) (H : vn_hd h c R m) (hk : k < m) (hx : x = k) (ht : R.2.1 k ≠ 288230376151711744) (S : vn_S h u) (th : vn_th h (R.2.1 k)) : vx_CL d 82 [.ref 625, .int (vx_i x)] h (fun r h1 => h1 = h ∧ vy_vr (vm_v u (R.2.1 k)) r) := by
  obtain ⟨b1, b2, b3, b4⟩ := H
  refine vg_82 hT ?_
  rw [h42, show (4 * (c : Int) + x).toNat = 4 * c + k by omega]
  rcases b3 k hk with ⟨a1, a2⟩ | ⟨a1, a2, a3, a4⟩ | ⟨a1, a2⟩
  · have := vy_vr_nv a2
    have nv : ∀ i, ¬ vz_v (R.2.1 k) i := fun i hi => by have := hi.2; omega
    exact ⟨by omega, fun q => absurd a1 q, fun _ => ⟨by omega, rfl, by rw [vm_v_c nv]; exact a2⟩⟩
  · obtain ⟨n, hn⟩ : ∃ n : Nat, vx_K h 638 (4 * c + k) = n := ⟨(vx_K h 638 (4 * c + k)).toNat, by omega⟩
    rw [hn] at a2 a3 a4 ⊢
    rw [show ((n : Nat) : Int).toNat = n by omega]
    have hv : vz_v (R.2.1 k) n := ⟨by omega, a2⟩
    exact ⟨by omega, fun _ => ⟨by omega, by omega, rfl, by rw [vm_v_v hv]; exact (S n (by omega)).2 (by omega) (th n hv)⟩, fun q => absurd q (by omega)⟩
  · exact absurd a2 ht
/-- rows that are alike as far as their arguments go are alike -/
theorem vn_ra_eq {f g : Nat → Int} (hf : vn_ra Pd f) (h0 : f 0 = p) (g0 : g 0 = p) (hm : Pd.2.2 p = m) (gz : ∀ k, m ≤ k → k < 4 → g (k + 1) = 0) (e : ∀ k, k < m → k < 4 → f (k + 1) = g (k + 1)) : vr_eq 5 f g := by
  obtain ⟨p', m', a1, a2, a3, a4, a5⟩ := hf
  have ep : p' = p := by omega
  subst ep
  have em : m' = m := by omega
  subst em
  intro k hk
  cases k with
  | zero => rw [h0, g0]
  | succ k =>
    by_cases q : k < m'
    · exact e k q (by omega)
    · rw [a5 k (by omega) (by omega), gz k (by omega) (by omega)]
/-- how come ends -/
def vn_cP (Pd : vy_V) (f : Nat → Int) (cnt : Nat) (rr : Nat → Nat → Int) (cm : Nat → Int) (tn : Int) (h h1 : ve_H) : Prop := (h1 = h ∧ ∃ i, i < cnt ∧ vr_eq 5 (rr i) f) ∨ (vx_fr vn_Wt h h1 ∧ (∀ i, i < cnt → ¬ vr_eq 5 (rr i) f) ∧ vn_T h1 Pd (cnt + 1) (vr_ad rr cnt f) (vm_cs cm cnt tn) ∧ vx_J h1 625 68 = if cnt < 200 then 0 else 1)
theorem vc_84_113 {v1 : Int} {v3 v4 : Option Value} (C : vn_cs h sd Pd) (hp : p < Pd.1) (hv1 : v1 = p) (hm : Pd.2.2 p = m) (m4 : m ≤ 4) (f0 : f 0 = p) (gv : vn_gv h m f) (T : vn_T h Pd cnt rr cm) (c200 : cnt ≤ 200) (no : ∀ i, i < cnt → ¬ vr_eq 5 (rr i) f) :
    ∀ (n k : Nat) (g : ve_H) (z : Int), n = 4 - k → k ≤ 4 → z = k → vx_T 625 672 g → vx_fr (fun a i => (a = 650 ∧ i = cnt) ∨ (a = 651 ∧ i = cnt) ∨ (a = 652 ∧ 4 * cnt ≤ i)) h g → vx_J g 650 cnt = p → vx_J g 651 cnt = tn → (∀ k', k' < k → vy_vr (f (k' + 1)) (vx_K g 652 (4 * cnt + k'))) → vx_W (d + 1) 84 113 [some (.ref 625), some (.int (vx_i v1)), some (.int (vx_i z)), v3, v4] [] g (vx_RV (vn_cP Pd f cnt rr cm tn h)) := by
  intro n
  induction n with
  | zero =>
    intro k g z hn hk hz hT F g50 g51 al
    have ek : k = 4 := by omega
    subst ek
    have g32 : vx_J g 625 32 = cnt := (vx_fr_J F (by omega)).trans T.1
    have Tn : ∀ h9, vx_fr (fun a i => a = 625 ∧ i = 68 ∨ a = 625 ∧ i = 32) g h9 → vx_J h9 625 32 = (cnt : Int) + 1 → vn_T h9 Pd (cnt + 1) (vr_ad rr cnt f) (vm_cs cm cnt tn) := by
      intro h9 F9 e32
      refine ⟨by rw [e32]; omega, fun i hi => ?_, fun i j hi hj e => ?_⟩
      · by_cases e : i = cnt
        · subst e
          rw [vr_ad_eq, show vm_cs cm i tn i = tn from if_pos rfl]
          refine ⟨⟨?_, fun k hk => ?_⟩, ⟨p, m, f0, hp, hm, m4, gv.2⟩, ?_⟩
          · rw [vx_fr_J F9 (by omega), g50, f0]
          · rw [vx_fr_K F9 (by omega)]; exact al k hk
          · rw [vx_fr_J F9 (by omega), g51]
        · have hi' : i < cnt := by omega
          obtain ⟨⟨b1, b2⟩, b3, b4⟩ := T.2.1 i hi'
          rw [vr_ad_lt hi', show vm_cs cm cnt tn i = cm i from if_neg e]
          refine ⟨⟨?_, fun k hk => ?_⟩, b3, ?_⟩
          · rw [vx_fr_J F9 (by omega), vx_fr_J F (by omega)]; exact b1
          · rw [vx_fr_K F9 (by omega), vx_fr_K F (by omega)]; exact b2 k hk
          · rw [vx_fr_J F9 (by omega), vx_fr_J F (by omega)]; exact b4
      · by_cases e1 : i = cnt
        · by_cases e2 : j = cnt
          · omega
          · exfalso
            rw [e1, vr_ad_eq, vr_ad_lt (show j < cnt by omega)] at e
            exact no j (by omega) (vr_eq_symm e)
        · by_cases e2 : j = cnt
          · exfalso
            rw [e2, vr_ad_eq, vr_ad_lt (show i < cnt by omega)] at e
            exact no i (by omega) e
          · rw [vr_ad_lt (show i < cnt by omega), vr_ad_lt (show j < cnt by omega)] at e
            exact T.2.2 i j (by omega) (by omega) e
    refine vg_84_113 hT ⟨by omega, fun _ => ?_, fun q => absurd q (by omega)⟩
    rintro h3 e3 _
    rw [g32] at e3
    have j3 : vx_J h3 625 32 = (cnt : Int) + 1 := by rw [e3, vx_J_eq (by omega)]
    have F3 : vx_fr (fun a i => a = 625 ∧ i = 68 ∨ a = 625 ∧ i = 32) g h3 := vx_fr_sJ vx_fr_refl e3 (by omega)
    rw [j3]
    refine ⟨fun q => ?_, fun q => ?_⟩
    · rintro h5 e5 _
      have F5 := vx_fr_sJ F3 e5 (Or.inl ⟨rfl, rfl⟩)
      refine Or.inr ⟨vx_fr_trans (vx_fr_mono F (fun a k q => by omega)) (vx_fr_mono F5 (fun a k q => by omega)), no, Tn h5 F5 ?_, ?_⟩
      · rw [e5, vx_J_ne (by omega)]; exact j3
      · rw [e5, vx_J_eq (by decide), if_pos (by omega)]
    · rintro h5 e5 _
      have F5 := vx_fr_sJ F3 e5 (Or.inl ⟨rfl, rfl⟩)
      refine Or.inr ⟨vx_fr_trans (vx_fr_mono F (fun a k q => by omega)) (vx_fr_mono F5 (fun a k q => by omega)), no, Tn h5 F5 ?_, ?_⟩
      · rw [e5, vx_J_ne (by omega)]; exact j3
      · rw [e5, vx_J_eq (by decide), if_neg (by omega)]
  | succ n ih =>
    intro k g z hn hk hz hT F g50 g51 al
    have g32 : vx_J g 625 32 = cnt := (vx_fr_J F (by omega)).trans T.1
    have Cg := vn_cs_fr C F (fun a k q => by omega)
    refine vg_84_113 hT ⟨by omega, fun q => absurd q (by omega), fun _ => vx_CI_mono (vc_83 hT Cg hp hv1) ?_⟩
    rintro r7 h7 _ ⟨rfl, er⟩ _
    rw [er, hm, g32, show (4 * (cnt : Int) + z).toNat = 4 * cnt + k by omega]
    have next : ∀ (v : Int) (h9 : ve_H), vy_vr (f (k + 1)) v → h9 = vx_sK h7 652 (4 * cnt + k) v → vx_T 625 672 h9 → vx_W (d + 1) 84 113 [some (.ref 625), some (.int (vx_i v1)), some (.int (vx_i (z + 1))), v3, v4] [] h9 (vx_RV (vn_cP Pd f cnt rr cm tn h)) := by
      intro v h9 hv e9 hT9
      refine ih (k + 1) h9 (z + 1) (by omega) (by omega) (by omega) hT9 (vx_fr_sK F e9 (by omega)) (by rw [e9, vx_J_sK]; exact g50) (by rw [e9, vx_J_sK]; exact g51) (fun k' hk' => ?_)
      by_cases e : k' = k
      · rw [e, e9, vx_K_eq (vy_vr_l hv).1]; exact hv
      · rw [e9, vx_K_ne (by omega)]; exact al k' (by omega)
    refine ⟨fun q => ⟨by omega, fun h9 e9 hT9 => next 0 h9 ?_ e9 hT9⟩, fun q => ⟨by omega, by omega, fun h9 e9 hT9 => next _ h9 ?_ e9 hT9⟩⟩
    · rw [gv.2 k (by omega) (by omega)]; exact Or.inl ⟨rfl, by omega, by omega⟩
    · rw [show z.toNat = k by omega, vx_fr_K F (by omega)]; exact gv.1 k (by omega)
theorem vc_84_29 {v1 : Int} {t : Nat} {v2 : Int} (hT : vx_T 625 672 h) (C : vn_cs h sd Pd) (hp : p < Pd.1) (hv1 : v1 = p) (hm : Pd.2.2 p = m) (m4 : m ≤ 4) (f0 : f 0 = p) (gv : vn_gv h m f) (T : vn_T h Pd cnt rr cm) (c200 : cnt ≤ 200) (ht : t < cnt) (hv2 : v2 = t)
    (K : ¬ vr_eq 5 (rr t) f → ∀ v3 v4, vx_W (d + 1) 84 2 [some (.ref 625), some (.int (vx_i v1)), some (.int (vx_i (v2 + 1))), v3, v4] [] h (vx_RV (vn_cP Pd f cnt rr cm tn h))) :
    ∀ (n k : Nat) (b z : Int), n = m - k → k ≤ m → z = k → ((b = 0 ∧ ¬ vr_eq 5 (rr t) f) ∨ (b = 1 ∧ rr t 0 = p ∧ ∀ k', k' < k → rr t (k' + 1) = f (k' + 1))) → vx_W (d + 1) 84 29 [some (.ref 625), some (.int (vx_i v1)), some (.int (vx_i v2)), some (.int (vx_i b)), some (.int (vx_i z))] [] h (vx_RV (vn_cP Pd f cnt rr cm tn h)) := by
  intro n
  have Tt := T.2.1 t ht
  induction n with
  | zero =>
    intro k b z hn hk hz hb
    refine vg_84_29 hT ⟨by omega, fun q => K ?_ _ _, fun q => vx_CI_mono (vc_83 hT C hp hv1) ?_⟩
    · rcases hb with ⟨_, a⟩ | ⟨a, _⟩
      · exact a
      · omega
    · rintro r3 h3 _ ⟨rfl, er⟩ _
      rw [er, hm]
      refine ⟨by omega, fun _ => Or.inl ⟨rfl, t, ht, ?_⟩, fun q => absurd q (by omega)⟩
      rcases hb with ⟨a, _⟩ | ⟨_, a, a2⟩
      · exact absurd a q
      · exact vn_ra_eq Tt.2.1 a f0 hm gv.2 (fun k' h' _ => a2 k' (by omega))
  | succ n ih =>
    intro k b z hn hk hz hb
    refine vg_84_29 hT ⟨by omega, fun q => K ?_ _ _, fun q => vx_CI_mono (vc_83 hT C hp hv1) ?_⟩
    · rcases hb with ⟨_, a⟩ | ⟨a, _⟩
      · exact a
      · omega
    · rintro r3 h3 _ ⟨rfl, er⟩ _
      obtain ⟨a, a2⟩ : rr t 0 = p ∧ ∀ k', k' < k → rr t (k' + 1) = f (k' + 1) := by
        rcases hb with ⟨a, _⟩ | ⟨_, a⟩
        · exact absurd a q
        · exact a
      rw [er, hm, show (4 * v2 + z).toNat = 4 * t + k by omega, show z.toNat = k by omega]
      have ee := vy_vr_eq (Tt.1.2 k (by omega)) (gv.1 k (by omega))
      refine ⟨by omega, fun q => absurd q (by omega), fun _ => ⟨by omega, by omega, fun q2 => ?_, fun q2 => ?_⟩⟩
      · exact ih (k + 1) 0 (z + 1) (by omega) (by omega) (by omega) (Or.inl ⟨rfl, fun e => q2 (ee.mpr (e (k + 1) (by omega)))⟩)
      · refine ih (k + 1) 1 (z + 1) (by omega) (by omega) (by omega) (Or.inr ⟨rfl, a, fun k' h' => ?_⟩)
        by_cases e : k' = k
        · rw [e]; exact ee.mp q2
        · exact a2 k' (by omega)
theorem vc_84_2 {v1 : Int} (hT : vx_T 625 672 h) (C : vn_cs h sd Pd) (hp : p < Pd.1) (hv1 : v1 = p) (hm : Pd.2.2 p = m) (m4 : m ≤ 4) (f0 : f 0 = p) (gv : vn_gv h m f) (T : vn_T h Pd cnt rr cm) (c200 : cnt ≤ 200) (htn : vx_J h 625 67 = tn) :
    ∀ (n t : Nat) (z : Int) (v3 v4 : Option Value), n = cnt - t → t ≤ cnt → z = t → (∀ i, i < t → ¬ vr_eq 5 (rr i) f) → vx_W (d + 1) 84 2 [some (.ref 625), some (.int (vx_i v1)), some (.int (vx_i z)), v3, v4] [] h (vx_RV (vn_cP Pd f cnt rr cm tn h)) := by
  intro n
  have p16 := C.1.2.2.1
  induction n with
  | zero =>
    intro t z v3 v4 hn ht hz no
    have et : t = cnt := by omega
    subst et
    refine vg_84_2 hT ⟨by omega, fun _ => ?_, fun q => absurd q (by rw [T.1]; omega)⟩
    rw [T.1]
    refine ⟨by omega, ?_⟩
    rintro h4 e4 _
    have j4 : vx_J h4 625 32 = (t : Nat) := by rw [e4, vx_J_ne (by omega)]; exact T.1
    rw [j4]
    refine ⟨by omega, ?_⟩
    rintro h6 e6 hT6
    rw [show ((t : Nat) : Int).toNat = t by omega] at e4 e6
    have j5 : vx_J h4 625 67 = tn := by rw [e4, vx_J_ne (by omega)]; exact htn
    rw [j5] at e6
    have rtn : vx_rI tn := by rw [← htn]; exact vx_rI_J _ _ _
    refine vc_84_113 C hp hv1 hm m4 f0 gv T c200 no 4 0 h6 0 rfl (by omega) rfl hT6 (vx_fr_sJ (vx_fr_sJ vx_fr_refl e4 (by omega)) e6 (by omega)) ?_ ?_ (fun k' h' => absurd h' (by omega))
    · rw [e6, vx_J_ne (by omega), e4, vx_J_eq (by omega)]; exact hv1
    · rw [e6, vx_J_eq rtn]
  | succ n ih =>
    intro t z v3 v4 hn ht hz no
    have ht' : t < cnt := by omega
    have Tt := T.2.1 t ht'
    refine vg_84_2 hT ⟨by omega, fun q => absurd q (by rw [T.1]; omega), fun _ => ?_⟩
    rw [show z.toNat = t by omega, Tt.1.1]
    have K : ¬ vr_eq 5 (rr t) f → ∀ v3 v4, vx_W (d + 1) 84 2 [some (.ref 625), some (.int (vx_i v1)), some (.int (vx_i (z + 1))), v3, v4] [] h (vx_RV (vn_cP Pd f cnt rr cm tn h)) := fun q v3 v4 => ih (t + 1) (z + 1) v3 v4 (by omega) (by omega) (by omega) (fun i hi => by
      by_cases e : i = t
      · rw [e]; exact q
      · exact no i (by omega))
    refine ⟨by omega, by omega, fun q => ?_, fun q => ?_⟩
    · exact vc_84_29 hT C hp hv1 hm m4 f0 gv T c200 ht' hz K m 0 0 0 rfl (by omega) rfl (Or.inl ⟨rfl, fun e => q (by rw [e 0 (by omega), f0, hv1])⟩)
    · exact vc_84_29 hT C hp hv1 hm m4 f0 gv T c200 ht' hz K m 0 1 0 rfl (by omega) rfl (Or.inr ⟨rfl, by rw [q, hv1], fun k' h' => absurd h' (by omega)⟩)
theorem vc_84 (hT : vx_T 625 672 h) (C : vn_cs h sd Pd) (hp : p < Pd.1) (hx : x = p) (hm : Pd.2.2 p = m) (m4 : m ≤ 4) (f0 : f 0 = p) (gv : vn_gv h m f) (T : vn_T h Pd cnt rr cm) (c200 : cnt ≤ 200) (htn : vx_J h 625 67 = tn) : vx_CV (d + 1) 84 [.ref 625, .int (vx_i x)] h (vn_cP Pd f cnt rr cm tn h) :=
  vg_84 hT (vc_84_2 hT C hp hx hm m4 f0 gv T c200 htn cnt 0 0 none none rfl (by omega) rfl (fun i hi => absurd hi (by omega)))
/-- the row of a head -/
theorem vc_85_2 {v1 : Int} (C : vn_cs h sd Pd) (h42 : vx_J h 625 42 = c) (hc : c < 61) (H : vn_hd h c R m) (hR : R.1 = p) (hp : p < Pd.1) (hm : Pd.2.2 p = m) (S : vn_S h u) (na : ∀ k, R.2.1 k ≠ 288230376151711744) (th : ∀ k, k < m → vn_th h (R.2.1 k)) (T : vn_T h Pd cnt rr cm) (c200 : cnt ≤ 200) (htn : vx_J h 625 67 = tn) :
    ∀ (n k : Nat) (g : ve_H) (z : Int), n = m - k → k ≤ m → z = k → vx_T 625 672 g → vx_fr (fun a _ => a = 669) h g → (∀ k', k' < k → vy_vr (vm_gl R u (k' + 1)) (vx_K g 669 k')) → vx_W (d + 1 + 1) 85 2 [some (.ref 625), some (.int (vx_i z))] [] g (vx_RV (fun h1 => ∃ g1, vx_fr (fun a _ => a = 669) h g1 ∧ vn_cP Pd (vm_gl R u) cnt rr cm tn g1 h1)) := by
  have egl : vm_gl R u = vu_row R.1 (fun k => vm_v u (R.2.1 k)) := if_neg (by omega)
  have m4 := H.2.1
  have p16 := C.1.2.2.1
  intro n
  induction n with
  | zero =>
    intro k g z hn hk hz hT F al
    have Cg := vn_cs_fr C F (fun a k q => by omega)
    have g42 : vx_J g 625 42 = c := (vx_fr_J F (by omega)).trans h42
    have g36 : vx_J g 636 c = p := by rw [vx_fr_J F (by omega), H.1, hR]
    refine vg_85_2 hT ?_
    rw [g42, show ((c : Nat) : Int).toNat = c by omega, g36]
    refine ⟨by omega, vx_CI_mono (vc_83 hT Cg hp rfl) ?_⟩
    rintro r2 h2 _ ⟨rfl, er⟩ _
    rw [er, hm, g42, show ((c : Nat) : Int).toNat = c by omega, g36]
    refine ⟨by omega, fun _ => ⟨by omega, vx_CV_mono (vc_84 hT Cg hp rfl hm m4 (f := vm_gl R u) ?_ ⟨fun k' h' => al k' (by omega), fun k' h' _ => ?_⟩ (vn_T_fr T F (fun a k q => by omega)) c200 ((vx_fr_J F (by omega)).trans htn)) ?_⟩, fun q => absurd q (by omega)⟩
    · rw [egl]; exact hR
    · rw [egl]
      show vm_v u (R.2.1 k') = 0
      rw [H.2.2.2 k' h', vm_v_c (fun i hi => by have := hi.2; omega)]
    · intro h1 q _
      exact ⟨h2, F, q⟩
  | succ n ih =>
    intro k g z hn hk hz hT F al
    have Cg := vn_cs_fr C F (fun a k q => by omega)
    have g42 : vx_J g 625 42 = c := (vx_fr_J F (by omega)).trans h42
    have g36 : vx_J g 636 c = p := by rw [vx_fr_J F (by omega), H.1, hR]
    have Hg := vn_hd_fr H F (fun a k q => by omega)
    refine vg_85_2 hT ?_
    rw [g42, show ((c : Nat) : Int).toNat = c by omega, g36]
    refine ⟨by omega, vx_CI_mono (vc_83 hT Cg hp rfl) ?_⟩
    rintro r2 h2 _ ⟨rfl, er⟩ _
    rw [er, hm]
    refine ⟨by omega, fun q => absurd q (by omega), fun _ => vx_CL_mono (vc_82 hT g42 hc Hg (k := k) (by omega) hz (na k) (vn_S_fr S F (fun k => by omega)) ((vn_th_fr F (fun k => by omega)).mpr (th k (by omega)))) ?_⟩
    rintro r7 h7 _ ⟨rfl, v7⟩ _
    refine ⟨by omega, ?_⟩
    rintro h9 e9 hT9
    rw [show z.toNat = k by omega] at e9
    refine ih (k + 1) h9 (z + 1) (by omega) (by omega) (by omega) hT9 (vx_fr_sK F e9 rfl) (fun k' h' => ?_)
    by_cases e : k' = k
    · rw [e, e9, vx_K_eq (vy_vr_l v7).1, egl]; exact v7
    · rw [e9, vx_K_ne (by omega)]; exact al k' (by omega)
theorem vc_85 (hT : vx_T 625 672 h) (C : vn_cs h sd Pd) (h42 : vx_J h 625 42 = c) (hc : c < 61) (H : vn_hd h c R m) (hR : R.1 = p) (hp : p < Pd.1) (hm : Pd.2.2 p = m) (S : vn_S h u) (na : ∀ k, R.2.1 k ≠ 288230376151711744) (th : ∀ k, k < m → vn_th h (R.2.1 k)) (T : vn_T h Pd cnt rr cm) (c200 : cnt ≤ 200) (htn : vx_J h 625 67 = tn) : vx_CV (d + 2) 85 [.ref 625] h (fun h1 => ∃ g1, vx_fr (fun a _ => a = 669) h g1 ∧ vn_cP Pd (vm_gl R u) cnt rr cm tn g1 h1) :=
  vg_85 hT (vc_85_2 (v1 := 0) C h42 hc H hR hp hm S na th T c200 htn m 0 h 0 rfl (by omega) rfl hT vx_fr_refl (fun k' h' => absurd h' (by omega)))
end
