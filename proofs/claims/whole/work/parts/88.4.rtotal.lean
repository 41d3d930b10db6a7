/-! What the reference does with a way: makeTotal -/
abbrev vn_Wx (a k : Nat) : Prop := vn_W6 a k ∨ vn_Wg a k
def vn_XB (h0 : ve_H) (R : vu_R) (kt m : Nat) (l : List (Nat → Int)) (h : ve_H) : Prop := vx_fr vn_Wx h0 h ∧ ∃ gc gr am, vn_G h R kt m l gc gr am
def vn_YB (h0 : ve_H) (R : vu_R) (kt : Nat) (l : List (Nat → Int)) (h : ve_H) : Prop := vx_fr vn_Wx h0 h ∧ vn_Gf R kt l
section
variable {d c m p sd gc kt c0 jn : Nat} {h h0 h1 g0 : ve_H} {Pd : vy_V} {R : vu_R} {u u' : Nat → Int} {gr r0 : Nat → Nat → Int} {am : Nat → Int} {mk : Int} {js : Nat → Nat} {l : List (Nat → Int)}
theorem vn_ky_0 (hR : R.1 = p) : vm_ky R kt u 0 = p := by
  rw [vm_ky_n (by omega), vm_gl_0 (by omega)]; exact hR
theorem vn_gl_z (hR : R.1 = p) (hz : ∀ k, m ≤ k → R.2.1 k = 0) {k : Nat} (hk : m ≤ k) : vm_gl R u (k + 1) = 0 := by
  have egl : vm_gl R u = vu_row R.1 (fun k => vm_v u (R.2.1 k)) := if_neg (by omega)
  rw [egl]
  show vm_v u (R.2.1 k) = 0
  rw [hz k hk, vm_v_c (fun i hi => by have := hi.2; omega)]
theorem vn_gl_s (hR : R.1 = p) {k : Nat} : vm_gl R u (k + 1) = vm_v u (R.2.1 k) := by
  have egl : vm_gl R u = vu_row R.1 (fun k => vm_v u (R.2.1 k)) := if_neg (by omega)
  rw [egl]; rfl
theorem vn_ky_z (hR : R.1 = p) (hz : ∀ k, m ≤ k → R.2.1 k = 0) {k : Nat} (hk : m ≤ k) : vm_ky R kt u (k + 1) = 0 := by
  by_cases q : k + 1 = kt + 1
  · rw [q]; exact vm_ky_z
  · rw [vm_ky_n q]; exact vn_gl_z hR hz hk
theorem vn_ky_eq (hR : R.1 = p) (hz : ∀ k, m ≤ k → R.2.1 k = 0) (e : ∀ k, k < m → vm_ky R kt u (k + 1) = vm_ky R kt u' (k + 1)) : vr_eq 5 (vm_ky R kt u) (vm_ky R kt u') := by
  intro k hk
  cases k with
  | zero => rw [vn_ky_0 hR, vn_ky_0 hR]
  | succ k =>
    by_cases q : k < m
    · exact e k q
    · rw [vn_ky_z hR hz (by omega), vn_ky_z hR hz (by omega)]
theorem vc_86_66 {v1 v2 v3 : Int} (hT : vx_T 625 672 h) (h42 : vx_J h 625 42 = c) (hc : c < 61) (h39 : vx_J h 639 c = R.2.2.1.1 - 4) (hk : 6 ≤ R.2.2.1.1 ∧ R.2.2.1.1 ≤ 9) (m4 : m ≤ 4) (hR : R.1 = p) (hz : ∀ k, m ≤ k → R.2.1 k = 0) (hv1 : v1 = m) (C : vn_G h R kt m l gc gr am) (gv : ∀ k, k < m → vy_vr (vm_ky R kt u (k + 1)) (vx_K h 669 k)) (B : vy_vr (vm_gl R u (kt + 1)) v3) (F0 : vx_fr vn_Wg g0 h) (e68 : vx_J h 625 68 = vx_J g0 625 68) :
    ∀ (n g : Nat) (z : Int), n = gc - g → g ≤ gc → z = g → (∀ g', g' < g → ¬ vr_eq 5 (gr g') (vm_ky R kt u)) → vx_W (d + 2) 86 66 [some (.ref 625), some (.int (vx_i v1)), some (.int (vx_i v2)), some (.long (vx_l v3)), none, some (.int (vx_i z)), none, none] [] h (vx_RV (vn_tP R kt m l u g0)) := by
  intro n
  have c75 := C.1
  have c201 := C.2.1
  induction n with
  | zero =>
    intro g z hn hg ez no
    have eg : g = gc := by omega
    subst eg
    refine vg_86_66 (d := d + 1) hT ?_
    rw [c75]
    refine ⟨by omega, fun _ => ⟨fun q => absurd ez q, fun _ => ?_⟩, fun q => absurd q (by omega)⟩
    refine vg_86_107 (d := d + 1) hT ?_
    rw [c75]
    refine ⟨by decide, fun q => absurd q (by decide), fun _ => ⟨fun q => ?_, fun q => ?_⟩⟩
    · exact vc_86_131 (d := d) (v6 := 1) h42 hc h39 hk m4 hv1 C (by omega) ez gv B no F0 e68 m 0 h 0 rfl (by omega) rfl hT vx_fr_refl (fun k' h' => absurd h' (by omega))
    · rintro h4 e4 _
      have e201 : g = 201 := by omega
      subst e201
      refine ⟨vx_fr_sJ F0 e4 (by omega), Or.inr ⟨by rw [e4, vx_J_eq (by decide)], gr, fun g hg => ?_, C.2.2.2.2⟩⟩
      obtain ⟨w, w1, w2⟩ := (C.2.2.1 g hg).2.2.2.2
      exact ⟨w, List.mem_append.mpr (Or.inl w1), w2⟩
  | succ n ih =>
    intro g z hn hg ez no
    have hg' : g < gc := by omega
    have Cg := C.2.2.1 g hg'
    obtain ⟨b1, b2, b3, b4, w, w1, w2⟩ := Cg
    refine vg_86_66 (d := d + 1) hT ?_
    rw [c75]
    refine ⟨by omega, fun q => absurd q (by omega), fun _ => vx_CI_mono (vc_87 hT (by omega) m4 ez hv1 b1 gv) ?_⟩
    rintro r4 h4 _ ⟨rfl, c4⟩ _
    rw [c75]
    refine ⟨fun q => ⟨fun _ => ?_, fun q2 => absurd q2 (by omega)⟩, fun q => ?_⟩
    · have al : ∀ k, k < m → gr g (k + 1) = vm_ky R kt u (k + 1) := by
        rcases c4 with ⟨_, t⟩ | ⟨t, _⟩
        · exact t
        · omega
      have eg : vr_eq 5 (gr g) (vm_ky R kt u) := vr_eq_trans w2 (vn_ky_eq hR hz (fun k hk => by rw [← w2 (k + 1) (by omega)]; exact al k hk))
      refine vg_86_107 (d := d + 1) hT ⟨by decide, fun _ => ?_, fun q => absurd rfl q⟩
      refine vn_up (d := d) hT h42 hc h39 hk (g := g) (by omega) ez b2 b3 B ?_
      intro y h9 hy e9 _
      exact ⟨vx_fr_sK F0 e9 (by omega), Or.inl ⟨by rw [e9, vx_J_sK]; exact e68, gc, gr, _, vn_G_old C hg' eg hy e9⟩⟩
    · refine ih (g + 1) (z + 1) (by omega) (by omega) (by omega) (fun g' h' => ?_)
      by_cases e : g' = g
      · rw [e]
        rcases c4 with ⟨t, _⟩ | ⟨_, t⟩
        · omega
        · exact fun s => t (fun k hk => s (k + 1) (by omega))
      · exact no g' (by omega)
theorem vc_86_26 {v1 v2 : Int} (h42 : vx_J h 625 42 = c) (hc : c < 61) (h39 : vx_J h 639 c = R.2.2.1.1 - 4) (hk : 6 ≤ R.2.2.1.1 ∧ R.2.2.1.1 ≤ 9) (H : vn_hd h c R m) (hR : R.1 = p) (ktm : kt < m) (S : vn_S h u) (na : ∀ k, R.2.1 k ≠ 288230376151711744) (th : ∀ k, k < m → vn_th h (R.2.1 k)) (hv1 : v1 = m) (hv2 : v2 = kt) (C : vn_G h R kt m l gc gr am) :
    ∀ (n k : Nat) (g : ve_H) (z : Int), n = m - k → k ≤ m → z = k → vx_T 625 672 g → vx_fr (fun a _ => a = 669) h g → (∀ k', k' < k → vy_vr (vm_ky R kt u (k' + 1)) (vx_K g 669 k')) → vx_W (d + 2) 86 26 [some (.ref 625), some (.int (vx_i v1)), some (.int (vx_i v2)), some (.int (vx_i z)), none, none, none, none] [] g (vx_RV (vn_tP R kt m l u h)) := by
  intro n
  have m4 := H.2.1
  induction n with
  | zero =>
    intro k g z hn hk' hz hT F al
    have g42 : vx_J g 625 42 = c := (vx_fr_J F (by omega)).trans h42
    have g39 : vx_J g 639 c = R.2.2.1.1 - 4 := (vx_fr_J F (by omega)).trans h39
    have Hg := vn_hd_fr H F (fun a k q => by omega)
    refine vg_86_26 (d := d + 1) hT ⟨by omega, by omega, fun _ => vx_CL_mono (vc_82 hT g42 hc Hg (k := kt) ktm hv2 (na kt) (vn_S_fr S F (fun k => by omega)) ((vn_th_fr F (fun k => by omega)).mpr (th kt ktm))) ?_, fun q => absurd q (by omega)⟩
    rintro r4 h4 _ ⟨rfl, v4⟩ _
    rw [← vn_gl_s (u := u) hR] at v4
    exact vc_86_66 (d := d) hT g42 hc g39 hk m4 hR H.2.2.2 hv1 (vn_G_fr C F (fun a k q => by omega)) (fun k' h' => al k' (by omega)) v4 (vx_fr_mono F (fun a k q => by omega)) (vx_fr_J F (by omega)) gc 0 0 rfl (by omega) rfl (fun g' h' => absurd h' (by omega))
  | succ n ih =>
    intro k g z hn hk' hz hT F al
    have g42 : vx_J g 625 42 = c := (vx_fr_J F (by omega)).trans h42
    have Hg := vn_hd_fr H F (fun a k q => by omega)
    have next : ∀ (y : Int) (h9 : ve_H), vy_vr (vm_ky R kt u (k + 1)) y → h9 = vx_sK g 669 k y → vx_T 625 672 h9 → vx_W (d + 2) 86 26 [some (.ref 625), some (.int (vx_i v1)), some (.int (vx_i v2)), some (.int (vx_i (z + 1))), none, none, none, none] [] h9 (vx_RV (vn_tP R kt m l u h)) := by
      intro y h9 hy e9 hT9
      refine ih (k + 1) h9 (z + 1) (by omega) (by omega) (by omega) hT9 (vx_fr_sK F e9 rfl) (fun k' h' => ?_)
      by_cases e : k' = k
      · rw [e, e9, vx_K_eq (vy_vr_l hy).1]; exact hy
      · rw [e9, vx_K_ne (by omega)]; exact al k' (by omega)
    refine vg_86_26 (d := d + 1) hT ?_
    rw [show z.toNat = k by omega]
    refine ⟨by omega, by omega, fun q => absurd q (by omega), fun _ => ⟨by omega, fun q => vx_CL_mono (vc_82 hT g42 hc Hg (k := k) (by omega) hz (na k) (vn_S_fr S F (fun k => by omega)) ((vn_th_fr F (fun k => by omega)).mpr (th k (by omega)))) ?_, fun q => ⟨by omega, fun h9 e9 hT9 => next 0 h9 ?_ e9 hT9⟩⟩⟩
    · rintro r7 h7 _ ⟨rfl, v7⟩ _
      refine ⟨by omega, fun h9 e9 hT9 => next r7 h9 ?_ e9 hT9⟩
      rw [vm_ky_n (by omega), vn_gl_s hR]; exact v7
    · rw [show k + 1 = kt + 1 by omega, vm_ky_z]; exact Or.inl ⟨rfl, by omega, by omega⟩
theorem vc_86 (hT : vx_T 625 672 h) (Cs : vn_cs h sd Pd) (h42 : vx_J h 625 42 = c) (hc : c < 61) (h39 : vx_J h 639 c = R.2.2.1.1 - 4) (h40 : vx_J h 640 c = kt) (hk : 6 ≤ R.2.2.1.1 ∧ R.2.2.1.1 ≤ 9) (H : vn_hd h c R m) (hR : R.1 = p) (hp : p < Pd.1) (hm : Pd.2.2 p = m) (ktm : kt < m) (S : vn_S h u) (na : ∀ k, R.2.1 k ≠ 288230376151711744) (th : ∀ k, k < m → vn_th h (R.2.1 k)) (C : vn_G h R kt m l gc gr am) : vx_CV (d + 2) 86 [.ref 625] h (vn_tP R kt m l u h) := by
  refine vg_86 (d := d + 1) hT ?_
  have h36 : vx_J h 636 c = p := by rw [H.1, hR]
  rw [h42, show ((c : Nat) : Int).toNat = c by omega, h36]
  refine ⟨by omega, vx_CI_mono (vc_83 hT Cs hp rfl) ?_⟩
  rintro r2 h2 _ ⟨rfl, e2⟩ _
  rw [h42, show ((c : Nat) : Int).toNat = c by omega, h40]
  exact ⟨by omega, vc_86_26 (d := d) h42 hc h39 hk H hR ktm S na th (e2.trans hm) rfl C m 0 h2 0 rfl (by omega) rfl hT vx_fr_refl (fun k' h' => absurd h' (by omega))⟩
theorem vn_HB (hR : R.1 = p) (hp : p < Pd.1) (hm : Pd.2.2 p = m) (hk : 6 ≤ R.2.2.1.1 ∧ R.2.2.1.1 ≤ 9) (ktm : kt < m) (ha : vz_aw R.2.2.2.1 false R.2.1) (n8 : R.2.2.2.1 ≤ 8) (C0 : vn_cs h0 sd Pd) (H0 : vn_hd h0 c R m) (c61 : c < 61) (h39 : vx_J h0 639 c = R.2.2.1.1 - 4) (h40 : vx_J h0 640 c = kt) (D0 : vn_db h0 Pd c0 r0) (emk : mk = 1) :
    vn_HY c Pd R.2.2.2.2 jn js mk R.2.2.2.1 c0 r0 (vn_XB h0 R kt m) (vn_YB h0 R kt) (vm_ZB R.2.2.2.1) := by
  refine ⟨?_, ?_, ?_, ?_, ?_, ?_⟩
  · rintro l h h1 ⟨G, gc, gr, am, q⟩ F
    exact ⟨vx_fr_trans G (vx_fr_mono F (fun a k q => by omega)), gc, gr, am, vn_G_fr q F (fun a k q => by omega)⟩
  · rintro l h h1 ⟨G, q⟩ F
    exact ⟨vx_fr_trans G (vx_fr_mono F (fun a k q => by omega)), q⟩
  · rintro l l' u ⟨w, q1, q2⟩
    exact ⟨w, List.mem_append.mpr (Or.inl q1), q2⟩
  · rintro l h ⟨G, _⟩
    exact vn_db_fr D0 G ⟨by omega, fun i hi => ⟨by omega, fun k hk => by omega⟩⟩
  · rintro d l h u hT C ⟨G, gc, gr, am, X⟩ j0 S bd
    have Ch := vn_cs_fr C0 G (fun a k q => by omega)
    have Hh := vn_hd_fr H0 G (fun a k q => by omega)
    have e66 := C.2.2.2.2
    refine vg_81 (d := d + 3) hT ⟨fun q => ⟨fun q2 => absurd (e66.trans emk) q2, fun _ => vx_CV_mono (vc_86 (d := d + 1) hT Ch C.1.1 c61 ((vx_fr_J G (by omega)).trans h39) ((vx_fr_J G (by omega)).trans h40) hk Hh hR hp hm ktm S (fun k => (ha k).2 rfl) (fun k _ i hi => bd i ((ha k).1 i hi)) X) ?_⟩, fun q => absurd q (by omega)⟩
    rintro h1 ⟨F, q⟩ _
    refine ⟨vx_fr_mono F (fun a k q => by omega), ?_⟩
    have G1 : vx_fr vn_Wx h0 h1 := vx_fr_trans G (vx_fr_mono F (fun a k q => Or.inr q))
    rcases q with ⟨q1, q2⟩ | ⟨q1, q2⟩
    · exact Or.inl ⟨q1.trans j0, G1, q2⟩
    · exact Or.inr ⟨by omega, G1, q2⟩
  · intro l v u hvu
    exact ⟨v, List.mem_append.mpr (Or.inr (List.mem_singleton.mpr rfl)), hvu⟩
end
