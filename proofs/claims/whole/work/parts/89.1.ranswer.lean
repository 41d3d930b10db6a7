/-! What the reference does with a way: answers -/
abbrev vn_Wc (a k : Nat) : Prop := (a = 625 ∧ (k = 68 ∨ k = 78)) ∨ a = 654
def vn_A (h : ve_H) (n ac : Nat) (ar : Nat → Nat → Int) : Prop := vx_J h 625 78 = ac ∧ ∀ i, i < ac → ∀ v, v < n → vy_vr (ar i v) (vx_K h 654 (8 * i + v))
def vn_dj (n : Nat) (ar : Nat → Nat → Int) : Prop := ∀ i j, i < n → j < n → vr_eq 8 (ar i) (ar j) → i = j
def vn_XC (h0 : ve_H) (R : vu_R) (l : List (Nat → Int)) (h : ve_H) : Prop := vx_fr (fun a k => vn_W6 a k ∨ vn_Wc a k) h0 h ∧ ∃ ac ar, vn_A h R.2.2.2.1 ac ar ∧ ac ≤ 200 ∧ vm_se 8 R (fun _ => False) l ac ar ∧ vn_dj ac ar
def vn_YC (h0 : ve_H) (R : vu_R) (l : List (Nat → Int)) (h : ve_H) : Prop := vx_fr (fun a k => vn_W6 a k ∨ vn_Wc a k) h0 h ∧ ∃ ar : Nat → Nat → Int, (∀ i, i < 201 → ∃ u, u ∈ l ∧ vr_eq 8 (ar i) (vm_gl R u)) ∧ vn_dj 201 ar
/-- how makeAnswer ends -/
def vn_aP (n ac : Nat) (ar : Nat → Nat → Int) (f : Nat → Int) (h h1 : ve_H) : Prop := (h1 = h ∧ ∃ i, i < ac ∧ vr_eq 8 (ar i) f) ∨ ((∀ i, i < ac → ¬ vr_eq 8 (ar i) f) ∧ vx_fr vn_Wc h h1 ∧ ((ac < 200 ∧ vx_J h1 625 68 = 0 ∧ vn_A h1 n (ac + 1) (vr_ad ar ac f)) ∨ (ac = 200 ∧ vx_J h1 625 68 = 1)))
section
variable {d c n ac jn c0 : Nat} {h h0 h1 g : ve_H} {Pd : vy_V} {R : vu_R} {u f : Nat → Int} {ar r0 : Nat → Nat → Int} {js : Nat → Nat} {mk : Int} {l : List (Nat → Int)}
theorem vn_A_fr {S : Nat → Nat → Prop} (C : vn_A h n ac ar) (F : vx_fr S h h1) (hs : ∀ a k, S a k → a ≠ 654 ∧ (a = 625 → k ≠ 78)) : vn_A h1 n ac ar := ⟨(vx_fr_J F (fun q => (hs _ _ q).2 rfl rfl)).trans C.1, fun i hi v hv => by rw [vx_fr_K F (fun q => (hs _ _ q).1 rfl)]; exact C.2 i hi v hv⟩
theorem vc_92_110 {v1 : Int} {v3 v4 : Option Value} (n8 : n ≤ 8) (hv1 : v1 = n) (A : vn_A h n ac ar) (a200 : ac < 200) (no : ∀ i, i < ac → ¬ vr_eq 8 (ar i) f) (fv : ∀ v, v < n → vy_vr (f v) (vx_K h 665 v)) :
    ∀ (m v : Nat) (g : ve_H) (z : Int), m = n - v → v ≤ n → z = v → vx_T 625 672 g → vx_fr (fun a k => (a = 625 ∧ k = 68) ∨ (a = 654 ∧ 8 * ac ≤ k)) h g → vx_J g 625 68 = 0 → (∀ v', v' < v → vy_vr (f v') (vx_K g 654 (8 * ac + v'))) → vx_W d 92 110 [some (.ref 625), some (.int (vx_i v1)), some (.int (vx_i z)), v3, v4] [] g (vx_RV (vn_aP n ac ar f h)) := by
  intro m
  induction m with
  | zero =>
    intro v g z hm hv hz hT F j0 al
    have g78 : vx_J g 625 78 = ac := (vx_fr_J F (by omega)).trans A.1
    refine vg_92_110 hT ⟨by omega, by omega, fun _ => ?_, fun q => absurd q (by omega)⟩
    rintro h4 e4 _
    rw [g78] at e4
    refine Or.inr ⟨no, vx_fr_sJ (vx_fr_mono F (fun a k q => by omega)) e4 (by omega), Or.inl ⟨a200, by rw [e4, vx_J_ne (by omega)]; exact j0, ?_, fun i hi v' hv' => ?_⟩⟩
    · rw [e4, vx_J_eq (by omega)]; omega
    · rw [e4, vx_K_sJ]
      by_cases e : i = ac
      · rw [e, vr_ad_eq]; exact al v' (by omega)
      · rw [vr_ad_lt (show i < ac by omega), vx_fr_K F (by omega)]; exact A.2 i (by omega) v' hv'
  | succ m ih =>
    intro v g z hm hv hz hT F j0 al
    have g78 : vx_J g 625 78 = ac := (vx_fr_J F (by omega)).trans A.1
    have fk := fv v (by omega)
    refine vg_92_110 hT ⟨by omega, by omega, fun q => absurd q (by omega), fun _ => ?_⟩
    rw [g78]
    refine ⟨by omega, by omega, ?_⟩
    rintro h7 e7 hT7
    rw [show z.toNat = v by omega, show (8 * (ac : Int) + z).toNat = 8 * ac + v by omega, vx_fr_K F (by omega)] at e7
    refine ih (v + 1) h7 (z + 1) (by omega) (by omega) (by omega) hT7 (vx_fr_sK F e7 (by omega)) (by rw [e7, vx_J_sK]; exact j0) (fun v' h' => ?_)
    by_cases e : v' = v
    · rw [e, e7, vx_K_eq (vy_vr_l fk).1]; exact fk
    · rw [e7, vx_K_ne (by omega)]; exact al v' (by omega)
theorem vc_92_25 {v1 v2 : Int} {i : Nat} (hT : vx_T 625 672 h) (n8 : n ≤ 8) (hv1 : v1 = n) (A : vn_A h n ac ar) (a200 : ac ≤ 200) (hi : i < ac) (hv2 : v2 = i) (fv : ∀ v, v < n → vy_vr (f v) (vx_K h 665 v)) (fz : ∀ v, n ≤ v → v < 8 → ar i v = f v)
    (K : ¬ vr_eq 8 (ar i) f → ∀ v3 v4, vx_W d 92 12 [some (.ref 625), some (.int (vx_i v1)), some (.int (vx_i (v2 + 1))), v3, v4] [] h (vx_RV (vn_aP n ac ar f h))) :
    ∀ (m v : Nat) (b z : Int), m = n - v → v ≤ n → z = v → ((b = 0 ∧ ¬ vr_eq 8 (ar i) f) ∨ (b = 1 ∧ ∀ v', v' < v → ar i v' = f v')) → vx_W d 92 25 [some (.ref 625), some (.int (vx_i v1)), some (.int (vx_i v2)), some (.int (vx_i b)), some (.int (vx_i z))] [] h (vx_RV (vn_aP n ac ar f h)) := by
  intro m
  induction m with
  | zero =>
    intro v b z hm hv hz hb
    refine vg_92_25 hT ⟨by omega, fun q => K ?_ _ _, fun q => ⟨by omega, by omega, fun _ => Or.inl ⟨rfl, i, hi, ?_⟩, fun q => absurd q (by omega)⟩⟩
    · rcases hb with ⟨_, a⟩ | ⟨a, _⟩
      · exact a
      · omega
    · rcases hb with ⟨a, _⟩ | ⟨_, a⟩
      · exact absurd a q
      · intro v' h'
        by_cases e : v' < n
        · exact a v' (by omega)
        · exact fz v' (by omega) h'
  | succ m ih =>
    intro v b z hm hv hz hb
    refine vg_92_25 hT ⟨by omega, fun q => K ?_ _ _, fun q => ⟨by omega, by omega, fun q => absurd q (by omega), fun _ => ?_⟩⟩
    · rcases hb with ⟨_, a⟩ | ⟨a, _⟩
      · exact a
      · omega
    · rw [show (8 * v2 + z).toNat = 8 * i + v by omega, show z.toNat = v by omega]
      have ee := vy_vr_eq (A.2 i hi v (by omega)) (fv v (by omega))
      refine ⟨by omega, by omega, fun q2 => ?_, fun q2 => ?_⟩
      · exact ih (v + 1) 0 (z + 1) (by omega) (by omega) (by omega) (Or.inl ⟨rfl, fun e => q2 (ee.mpr (e v (by omega)))⟩)
      · refine ih (v + 1) 1 (z + 1) (by omega) (by omega) (by omega) (Or.inr ⟨rfl, fun v' h' => ?_⟩)
        by_cases e : v' = v
        · rw [e]; exact ee.mp q2
        · rcases hb with ⟨a, _⟩ | ⟨_, a⟩
          · exact absurd a q
          · exact a v' (by omega)
theorem vc_92 (hT : vx_T 625 672 h) (h42 : vx_J h 625 42 = c) (hc : c < 61) (h642 : vx_J h 642 c = n) (n8 : n ≤ 8) (A : vn_A h n ac ar) (a200 : ac ≤ 200) (fv : ∀ v, v < n → vy_vr (f v) (vx_K h 665 v)) (fz : ∀ i, i < ac → ∀ v, n ≤ v → v < 8 → ar i v = f v) : vx_CV d 92 [.ref 625] h (vn_aP n ac ar f h) := by
  have LOOP : ∀ (m i : Nat) (z : Int) (v3 v4 : Option Value), m = ac - i → i ≤ ac → z = i → (∀ i', i' < i → ¬ vr_eq 8 (ar i') f) → vx_W d 92 12 [some (.ref 625), some (.int (vx_i ((n : Nat) : Int))), some (.int (vx_i z)), v3, v4] [] h (vx_RV (vn_aP n ac ar f h)) := by
    intro m
    induction m with
    | zero =>
      intro i z v3 v4 hm hi hz no
      have ei : i = ac := by omega
      subst ei
      refine vg_92_12 hT ?_
      rw [A.1]
      refine ⟨by omega, fun _ => ⟨fun q => ?_, fun q => ?_⟩, fun q => absurd q (by omega)⟩
      · rintro h4 e4 hT4
        exact vc_92_110 n8 rfl A (by omega) no fv n 0 h4 0 (by omega) (by omega) rfl hT4 (vx_fr_sJ vx_fr_refl e4 (by omega)) (by rw [e4, vx_J_eq (by decide)]) (fun v' h' => absurd h' (by omega))
      · rintro h5 e5 _
        exact Or.inr ⟨no, vx_fr_sJ vx_fr_refl e5 (by omega), Or.inr ⟨by omega, by rw [e5, vx_J_eq (by decide)]⟩⟩
    | succ m ih =>
      intro i z v3 v4 hm hi hz no
      refine vg_92_12 hT ?_
      rw [A.1]
      refine ⟨by omega, fun q => absurd q (by omega), fun _ => ?_⟩
      exact vc_92_25 hT n8 rfl A a200 (i := i) (by omega) hz fv (fz i (by omega)) (fun q v3 v4 => ih (i + 1) (z + 1) v3 v4 (by omega) (by omega) (by omega) (fun i' h' => by
        by_cases e : i' = i
        · rw [e]; exact q
        · exact no i' (by omega))) n 0 1 0 (by omega) (by omega) rfl (Or.inr ⟨rfl, fun v' h' => absurd h' (by omega)⟩)
  refine vg_92 hT ?_
  rw [h42, show ((c : Nat) : Int).toNat = c by omega, h642]
  exact ⟨by omega, LOOP ac 0 0 none none rfl (by omega) rfl (fun i' h' => absurd h' (by omega))⟩
theorem vn_HC (hR : R.1 = -1) (n8 : R.2.2.2.1 ≤ 8) (ha : vz_aw R.2.2.2.1 false R.2.1) (c61 : c < 61) (h642 : vx_J h0 642 c = R.2.2.2.1) (D0 : vn_db h0 Pd c0 r0) (emk : mk = 2) :
    vn_HY c Pd R.2.2.2.2 jn js mk R.2.2.2.1 c0 r0 (vn_XC h0 R) (vn_YC h0 R) (vm_ZA 8 R (fun _ => False)) := by
  have w8 : vm_gw R = 8 := if_pos hR
  have egl : ∀ u, vm_gl R u = fun v => if v < R.2.2.2.1 then u v else 0 := fun u => if_pos hR
  refine ⟨?_, ?_, ?_, ?_, ?_, ?_⟩
  · rintro l h h1 ⟨G, ac, ar, A, q⟩ F
    exact ⟨vx_fr_trans G (vx_fr_mono F (fun a k q => by omega)), ac, ar, vn_A_fr A F (fun a k q => by omega), q⟩
  · rintro l h h1 ⟨G, q⟩ F
    exact ⟨vx_fr_trans G (vx_fr_mono F (fun a k q => by omega)), q⟩
  · rintro l l' u (q | ⟨v, q1, q2⟩)
    · exact Or.inl q
    · exact Or.inr ⟨v, List.mem_append.mpr (Or.inl q1), q2⟩
  · rintro l h ⟨G, _⟩
    exact vn_db_fr D0 G ⟨by omega, fun i hi => ⟨by omega, fun k hk => by omega⟩⟩
  · rintro d l h u hT C ⟨G, ac, ar, A, a200, se, dj⟩ j0 S bd
    have e66 := C.2.2.2.2
    have fz : ∀ i, i < ac → ∀ v, R.2.2.2.1 ≤ v → v < 8 → ar i v = vm_gl R u v := fun i hi v hv v8 => by
      rcases se.1 i hi with t | ⟨w, _, w2⟩
      · exact absurd t (fun t => t)
      · rw [w2 v v8, egl, egl]
        show (if v < R.2.2.2.1 then w v else 0) = if v < R.2.2.2.1 then u v else 0
        rw [if_neg (by omega), if_neg (by omega)]
    have fv : ∀ v, v < R.2.2.2.1 → vy_vr (vm_gl R u v) (vx_K h 665 v) := fun v hv => by
      rw [egl]
      show vy_vr (if v < R.2.2.2.1 then u v else 0) _
      rw [if_pos hv]
      exact (S v (by omega)).2 (by omega) (bd v hv)
    refine vg_81 (d := d + 3) hT ⟨fun q => ⟨fun q2 => vx_CV_mono (vc_92 hT C.1.1 c61 ((vx_fr_J G (by omega)).trans h642) n8 A a200 fv fz) ?_, fun q2 => absurd q2 (by omega)⟩, fun q => absurd q (by omega)⟩
    have mem : u ∈ l ++ [u] := List.mem_append.mpr (Or.inr (List.mem_singleton.mpr rfl))
    rintro h1 (⟨rfl, i, i1, i2⟩ | ⟨no, F, q⟩) _
    · refine ⟨vx_fr_refl, Or.inl ⟨j0, G, ac, ar, A, a200, ⟨fun i hi => ?_, ?_⟩, dj⟩⟩
      · rcases se.1 i hi with t | ⟨w, w1, w2⟩
        · exact Or.inl t
        · exact Or.inr ⟨w, List.mem_append.mpr (Or.inl w1), w2⟩
      · rintro f (t | ⟨w, w1, w2⟩)
        · exact absurd t (fun t => t)
        · rcases List.mem_append.mp w1 with w1 | w1
          · exact se.2 f (Or.inr ⟨w, w1, w2⟩)
          · rw [List.mem_singleton.mp w1] at w2
            exact ⟨i, i1, vr_eq_trans i2 (vr_eq_symm w2)⟩
    · have G1 : vx_fr (fun a k => vn_W6 a k ∨ vn_Wc a k) h0 h1 := vx_fr_trans G (vx_fr_mono F (fun a k q => Or.inr q))
      have rows : ∀ i, i < ac + 1 → ∃ w, w ∈ l ++ [u] ∧ vr_eq 8 (vr_ad ar ac (vm_gl R u) i) (vm_gl R w) := fun i hi => by
        by_cases e : i = ac
        · rw [e, vr_ad_eq]; exact ⟨u, mem, fun _ _ => rfl⟩
        · rw [vr_ad_lt (show i < ac by omega)]
          rcases se.1 i (by omega) with t | ⟨w, w1, w2⟩
          · exact absurd t (fun t => t)
          · exact ⟨w, List.mem_append.mpr (Or.inl w1), w2⟩
      have dj1 : vn_dj (ac + 1) (vr_ad ar ac (vm_gl R u)) := fun i j hi hj e => by
        by_cases e1 : i = ac
        · by_cases e2 : j = ac
          · omega
          · exfalso
            rw [e1, vr_ad_eq, vr_ad_lt (show j < ac by omega)] at e
            exact no j (by omega) (vr_eq_symm e)
        · by_cases e2 : j = ac
          · exfalso
            rw [e2, vr_ad_eq, vr_ad_lt (show i < ac by omega)] at e
            exact no i (by omega) e
          · rw [vr_ad_lt (show i < ac by omega), vr_ad_lt (show j < ac by omega)] at e
            exact dj i j (by omega) (by omega) e
      refine ⟨vx_fr_mono F (fun a k q => by omega), ?_⟩
      rcases q with ⟨q1, q2, q3⟩ | ⟨q1, q2⟩
      · refine Or.inl ⟨q2, G1, ac + 1, _, q3, by omega, ⟨fun i hi => Or.inr (rows i hi), ?_⟩, dj1⟩
        rintro f (t | ⟨w, w1, w2⟩)
        · exact absurd t (fun t => t)
        · rcases List.mem_append.mp w1 with w1 | w1
          · obtain ⟨i, i1, i2⟩ := se.2 f (Or.inr ⟨w, w1, w2⟩)
            exact ⟨i, by omega, by rw [vr_ad_lt i1]; exact i2⟩
          · rw [List.mem_singleton.mp w1] at w2
            exact ⟨ac, by omega, by rw [vr_ad_eq]; exact vr_eq_symm w2⟩
      · rw [q1] at rows dj1
        exact Or.inr ⟨by omega, G1, _, rows, dj1⟩
  · intro l v u hvu
    have ge := vm_gl_nv (R := R) ha hvu
    rw [w8] at ge
    exact Or.inr ⟨v, List.mem_append.mpr (Or.inr (List.mem_singleton.mpr rfl)), vr_eq_symm ge⟩
end
