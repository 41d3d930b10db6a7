/-! What the reference does with a way: groups of a clause with a total -/
/-- the groups -/
def vn_G (h : ve_H) (R : vu_R) (kt m : Nat) (l : List (Nat → Int)) (gc : Nat) (gr : Nat → Nat → Int) (am : Nat → Int) : Prop := vx_J h 625 75 = gc ∧ gc ≤ 201 ∧ (∀ g, g < gc → (∀ k, k < m → vy_vr (gr g (k + 1)) (vx_K h 670 (4 * g + k))) ∧ vy_vr (am g) (vx_K h 671 g) ∧ (R.2.2.1.1 = 6 ∨ R.2.2.1.1 = 7 → am g < 72057594037927936) ∧ vm_am R.2.2.1.1 (vm_ws R kt l (gr g)) = some (am g) ∧ ∃ u, u ∈ l ∧ vr_eq 5 (gr g) (vm_ky R kt u)) ∧ (∀ u, u ∈ l → ∃ g, g < gc ∧ vr_eq 5 (gr g) (vm_ky R kt u)) ∧ ∀ g g', g < gc → g' < gc → vr_eq 5 (gr g) (gr g') → g = g'
/-- too many groups -/
def vn_Gf (R : vu_R) (kt : Nat) (l : List (Nat → Int)) : Prop := ∃ gr : Nat → Nat → Int, (∀ g, g < 201 → ∃ u, u ∈ l ∧ vr_eq 5 (gr g) (vm_ky R kt u)) ∧ ∀ g g', g < 201 → g' < 201 → vr_eq 5 (gr g) (gr g') → g = g'
abbrev vn_Wg (a k : Nat) : Prop := (a = 625 ∧ (k = 68 ∨ k = 75)) ∨ a = 669 ∨ a = 670 ∨ a = 671
section
variable {d c m p g gc kt : Nat} {h h1 : ve_H} {R : vu_R} {u f f' : Nat → Int} {gr : Nat → Nat → Int} {am : Nat → Int} {x y kd a w : Int} {l : List (Nat → Int)}
theorem vn_G_fr {S : Nat → Nat → Prop} (C : vn_G h R kt m l gc gr am) (F : vx_fr S h h1) (hs : ∀ a k, S a k → a ≠ 670 ∧ a ≠ 671 ∧ (a = 625 → k ≠ 75)) : vn_G h1 R kt m l gc gr am := by
  obtain ⟨a1, a2, a3, a4⟩ := C
  refine ⟨(vx_fr_J F (fun q => (hs _ _ q).2.2 rfl rfl)).trans a1, a2, fun g hg => ?_, a4⟩
  obtain ⟨b1, b2, b3⟩ := a3 g hg
  refine ⟨fun k hk => ?_, ?_, b3⟩
  · rw [vx_fr_K F (fun q => (hs _ _ q).1 rfl)]; exact b1 k hk
  · rw [vx_fr_K F (fun q => (hs _ _ q).2.1 rfl)]; exact b2
theorem vm_na_n (ha : kd = 6 ∨ kd = 7 → a < 72057594037927936) : kd = 6 ∨ kd = 7 → vm_na kd a w < 72057594037927936 := by
  intro q
  unfold vm_na
  have r1 := vx_w_r (a + 1)
  have r2 := vx_w_r (a + w)
  unfold vx_rI at r1 r2
  have := ha q
  split
  · omega
  · rw [if_pos (by omega)]
    split <;> omega
theorem vm_fa_init (hw : vz_va w) (hk : 6 ≤ kd ∧ kd ≤ 9) : vm_na kd (if kd = 6 ∨ kd = 7 then 0 else w) w = vm_fa kd w := by
  unfold vm_na vm_fa
  by_cases k6 : kd = 6
  · rw [if_pos k6, if_pos (Or.inl k6), if_pos k6]; exact vx_w_id (by decide)
  · rw [if_neg k6, if_neg k6]
    by_cases k7 : kd = 7
    · rw [if_pos k7, if_pos (Or.inr k7), if_pos k7]
      by_cases q : w < 72057594037927936
      · rw [if_pos q, if_pos q, Int.zero_add]
        obtain ⟨v, hv⟩ := hw
        have t := (vy_vr_n hv).2 q
        rw [t.1]; exact vx_w_id t.2
      · rw [if_neg q, if_neg q]
    · rw [if_neg k7, if_neg (show ¬ (kd = 6 ∨ kd = 7) by omega), if_neg k7]
      split
      · omega
      · omega
theorem vn_up {P : ve_H → Prop} {v1 v2 v3 v5 v6 : Int} {v7 : Option Value} (hT : vx_T 625 672 h) (h42 : vx_J h 625 42 = c) (hc : c < 61) (h39 : vx_J h 639 c = kd - 4) (hk : 6 ≤ kd ∧ kd ≤ 9) (hg : g < 202) (hv5 : v5 = g) (A : vy_vr a (vx_K h 671 g)) (an : kd = 6 ∨ kd = 7 → a < 72057594037927936) (B : vy_vr w v3) (K : ∀ z h', vy_vr (vm_na kd a w) z → h' = vx_sK h 671 g z → vx_T 625 672 h' → P h') : vx_W (d + 2) 86 210 [some (.ref 625), some (.int (vx_i v1)), some (.int (vx_i v2)), some (.long (vx_l v3)), none, some (.int (vx_i v5)), some (.int (vx_i v6)), v7] [] h (vx_RV P) := by
  have num : ∀ z, vy_vr (vx_w z) (vx_w z) := fun z => Or.inl ⟨rfl, by have := vx_w_r z; unfold vx_rI at this; omega⟩
  refine vh_86_210 (d := d + 1) hT ?_
  rw [h42, show ((c : Nat) : Int).toNat = c by omega, h39, show v5.toNat = g by omega]
  refine ⟨by omega, fun q => ⟨by omega, by omega, fun h6 e6 hT6 => K _ h6 ?_ e6 hT6⟩, fun q => vx_CI_mono (vc_66 hT (vy_vr_l B).1) ?_, fun q => ⟨by omega, vx_CI_mono (vc_67 (d := d) hT B A) ?_⟩, fun q => ⟨by omega, vx_CI_mono (vc_67 (d := d) hT B A) ?_⟩⟩
  · have e := ((vy_vr_n A).2 (an (by omega))).1
    unfold vm_na
    rw [if_pos (by omega), ← e]; exact num _
  · rintro r7 h7 _ ⟨rfl, c7⟩ _
    have e := ((vy_vr_n A).2 (an (by omega))).1
    have n3 := (vy_vr_n B)
    unfold vm_na at K
    rw [if_neg (by omega), if_pos (by omega)] at K
    refine ⟨fun q7 => ⟨by omega, by omega, fun h12 e12 hT12 => K _ h12 ?_ e12 hT12⟩, fun q7 => ⟨by omega, by omega, fun h15 e15 hT15 => K _ h15 ?_ e15 hT15⟩⟩
    · have w0 : w < 72057594037927936 := n3.1.mp (by omega)
      rw [if_pos w0, (n3.2 w0).1, e]; exact num _
    · have w0 : ¬ w < 72057594037927936 := fun t => by have := n3.1.mpr t; omega
      rw [if_neg w0]; exact A
  · rintro r17 h17 _ ⟨rfl, c17⟩ _
    unfold vm_na at K
    rw [if_neg (by omega), if_neg (by omega), if_pos (by omega)] at K
    refine ⟨fun q7 => ⟨by omega, by omega, fun h12 e12 hT12 => K _ h12 ?_ e12 hT12⟩, fun q7 => ⟨by omega, fun h15 e15 hT15 => K _ h15 ?_ e15 hT15⟩⟩
    · rw [Int.min_eq_left (by omega)]; exact A
    · rw [Int.min_eq_right (by omega)]; exact B
  · rintro r25 h25 _ ⟨rfl, c25⟩ _
    unfold vm_na at K
    rw [if_neg (by omega), if_neg (by omega), if_neg (by omega)] at K
    refine ⟨fun q7 => ⟨by omega, by omega, fun h12 e12 hT12 => K _ h12 ?_ e12 hT12⟩, fun q7 => ⟨by omega, fun h15 e15 hT15 => K _ h15 ?_ e15 hT15⟩⟩
    · rw [Int.max_eq_left (by omega)]; exact A
    · rw [Int.max_eq_right (by omega)]; exact B
theorem vc_87_2 (hT : vx_T 625 672 h) (hg : g < 202) (m4 : m ≤ 4) (hx : x = g) (hy : y = m) (A : ∀ k, k < m → vy_vr (f (k + 1)) (vx_K h 670 (4 * g + k))) (B : ∀ k, k < m → vy_vr (f' (k + 1)) (vx_K h 669 k)) :
    ∀ (n k : Nat) (z : Int), n = m - k → k ≤ m → z = k → (∀ k', k' < k → f (k' + 1) = f' (k' + 1)) → vx_W d 87 2 [some (.ref 625), some (.int (vx_i x)), some (.int (vx_i y)), some (.int (vx_i z))] [] h (vx_RI (fun r h1 => h1 = h ∧ ((r = 1 ∧ ∀ k, k < m → f (k + 1) = f' (k + 1)) ∨ (r = 0 ∧ ¬ ∀ k, k < m → f (k + 1) = f' (k + 1))))) := by
  intro n
  induction n with
  | zero =>
    intro k z hn hk hz al
    exact vg_87_2 hT ⟨by omega, by omega, fun _ => ⟨rfl, Or.inl ⟨rfl, fun k' h' => al k' (by omega)⟩⟩, fun q => absurd q (by omega)⟩
  | succ n ih =>
    intro k z hn hk hz al
    refine vg_87_2 hT ⟨by omega, by omega, fun q => absurd q (by omega), fun _ => ?_⟩
    rw [show (4 * x + z).toNat = 4 * g + k by omega, show z.toNat = k by omega]
    have ee := vy_vr_eq (A k (by omega)) (B k (by omega))
    refine ⟨by omega, by omega, fun q => ?_, fun q => ⟨rfl, Or.inr ⟨rfl, fun t => q (ee.mpr (t k (by omega)))⟩⟩⟩
    refine ih (k + 1) (z + 1) (by omega) (by omega) (by omega) (fun k' h' => ?_)
    by_cases e : k' = k
    · rw [e]; exact ee.mp q
    · exact al k' (by omega)
theorem vc_87 (hT : vx_T 625 672 h) (hg : g < 202) (m4 : m ≤ 4) (hx : x = g) (hy : y = m) (A : ∀ k, k < m → vy_vr (f (k + 1)) (vx_K h 670 (4 * g + k))) (B : ∀ k, k < m → vy_vr (f' (k + 1)) (vx_K h 669 k)) : vx_CI d 87 [.ref 625, .int (vx_i x), .int (vx_i y)] h (fun r h1 => h1 = h ∧ ((r = 1 ∧ ∀ k, k < m → f (k + 1) = f' (k + 1)) ∨ (r = 0 ∧ ¬ ∀ k, k < m → f (k + 1) = f' (k + 1)))) :=
  vg_87 hT (vc_87_2 hT hg m4 hx hy A B m 0 0 rfl (by omega) rfl (fun k' h' => absurd h' (by omega)))
/-- a group takes a way -/
theorem vn_G_old {z : Int} (C : vn_G h R kt m l gc gr am) (hg : g < gc) (eg : vr_eq 5 (gr g) (vm_ky R kt u)) (hz : vy_vr (vm_na R.2.2.1.1 (am g) (vm_gl R u (kt + 1))) z) (e1 : h1 = vx_sK h 671 g z) : vn_G h1 R kt m (l ++ [u]) gc gr (fun g' => if g' = g then vm_na R.2.2.1.1 (am g) (vm_gl R u (kt + 1)) else am g') := by
  obtain ⟨a1, a2, a3, a4, a5⟩ := C
  refine ⟨by rw [e1, vx_J_sK]; exact a1, a2, fun g' hg' => ?_, fun w hw => ?_, a5⟩
  · obtain ⟨b1, b2, b3, b4, b5⟩ := a3 g' hg'
    have mem : ∃ w, w ∈ l ++ [u] ∧ vr_eq 5 (gr g') (vm_ky R kt w) := by
      obtain ⟨w, w1, w2⟩ := b5
      exact ⟨w, List.mem_append.mpr (Or.inl w1), w2⟩
    have k70 : ∀ k, k < m → vy_vr (gr g' (k + 1)) (vx_K h1 670 (4 * g' + k)) := fun k hk => by rw [e1, vx_K_ne (by omega)]; exact b1 k hk
    dsimp only
    by_cases q : g' = g
    · subst q
      rw [if_pos rfl]
      refine ⟨k70, by rw [e1, vx_K_eq (vy_vr_l hz).1]; exact hz, vm_na_n b3, ?_, mem⟩
      rw [vm_ws_in (vr_eq_symm eg), vm_am_snoc, b4]; rfl
    · rw [if_neg q]
      have ne : ¬ vr_eq 5 (vm_ky R kt u) (gr g') := fun t => q (a5 g' g hg' hg (vr_eq_trans (vr_eq_symm t) (vr_eq_symm eg)))
      exact ⟨k70, by rw [e1, vx_K_ne (by omega)]; exact b2, b3, by rw [vm_ws_out ne]; exact b4, mem⟩
  · rcases List.mem_append.mp hw with t | t
    · exact a4 w t
    · rw [List.mem_singleton.mp t]; exact ⟨g, hg, eg⟩
/-- a way makes a group -/
theorem vn_G_new {z : Int} (C : vn_G h R kt m l gc gr am) (hc : gc ≤ 200) (no : ∀ g, g < gc → ¬ vr_eq 5 (gr g) (vm_ky R kt u)) (wv : vz_va (vm_gl R u (kt + 1))) (hk : 6 ≤ R.2.2.1.1 ∧ R.2.2.1.1 ≤ 9) (F : vx_fr (fun a k => (a = 625 ∧ k = 75) ∨ (a = 670 ∧ 4 * gc ≤ k) ∨ (a = 671 ∧ k = gc)) h h1) (j1 : vx_J h1 625 75 = (gc : Int) + 1) (k1 : ∀ k, k < m → vy_vr (vm_ky R kt u (k + 1)) (vx_K h1 670 (4 * gc + k))) (m4 : m ≤ 4) (hz : vy_vr (vm_na R.2.2.1.1 (if R.2.2.1.1 = 6 ∨ R.2.2.1.1 = 7 then 0 else vm_gl R u (kt + 1)) (vm_gl R u (kt + 1))) z) (ez : vx_K h1 671 gc = z) : vn_G h1 R kt m (l ++ [u]) (gc + 1) (vr_ad gr gc (vm_ky R kt u)) (fun g' => if g' = gc then vm_fa R.2.2.1.1 (vm_gl R u (kt + 1)) else am g') := by
  obtain ⟨a1, a2, a3, a4, a5⟩ := C
  have mem : u ∈ l ++ [u] := List.mem_append.mpr (Or.inr (List.mem_singleton.mpr rfl))
  have wsn : vm_ws R kt l (vm_ky R kt u) = [] := vm_ws_nil (fun w hw t => by
    obtain ⟨g, g1, g2⟩ := a4 w hw
    exact no g g1 (vr_eq_trans g2 t))
  have fn : R.2.2.1.1 = 6 ∨ R.2.2.1.1 = 7 → vm_fa R.2.2.1.1 (vm_gl R u (kt + 1)) < 72057594037927936 := by
    rw [← vm_fa_init wv hk]
    exact vm_na_n (fun q => by rw [if_pos q]; decide)
  rw [vm_fa_init wv hk] at hz
  refine ⟨by rw [j1]; omega, by omega, fun g hg => ?_, fun w hw => ?_, fun g g' hg hg' e => ?_⟩
  · dsimp only
    by_cases q : g = gc
    · subst q
      rw [if_pos rfl, vr_ad_eq]
      refine ⟨k1, by rw [ez]; exact hz, fn, ?_, u, mem, fun _ _ => rfl⟩
      rw [vm_ws_in (fun _ _ => rfl), wsn, vm_am_snoc]; rfl
    · have hg' : g < gc := by omega
      rw [if_neg q, vr_ad_lt hg']
      obtain ⟨b1, b2, b3, b4, w, w1, w2⟩ := a3 g hg'
      refine ⟨fun k hk => by rw [vx_fr_K F (by omega)]; exact b1 k hk, by rw [vx_fr_K F (by omega)]; exact b2, b3, ?_, w, List.mem_append.mpr (Or.inl w1), w2⟩
      rw [vm_ws_out (fun t => no g hg' (vr_eq_symm t))]; exact b4
  · rcases List.mem_append.mp hw with t | t
    · obtain ⟨g, g1, g2⟩ := a4 w t
      exact ⟨g, by omega, by rw [vr_ad_lt g1]; exact g2⟩
    · rw [List.mem_singleton.mp t]
      exact ⟨gc, by omega, by rw [vr_ad_eq]; exact fun _ _ => rfl⟩
  · by_cases e1 : g = gc
    · by_cases e2 : g' = gc
      · omega
      · exfalso
        rw [e1, vr_ad_eq, vr_ad_lt (show g' < gc by omega)] at e
        exact no g' (by omega) (vr_eq_symm e)
    · by_cases e2 : g' = gc
      · exfalso
        rw [e2, vr_ad_eq, vr_ad_lt (show g < gc by omega)] at e
        exact no g (by omega) e
      · rw [vr_ad_lt (show g < gc by omega), vr_ad_lt (show g' < gc by omega)] at e
        exact a5 g g' (by omega) (by omega) e
/-- how makeTotal ends -/
def vn_tP (R : vu_R) (kt m : Nat) (l : List (Nat → Int)) (u : Nat → Int) (h h1 : ve_H) : Prop := vx_fr vn_Wg h h1 ∧ ((vx_J h1 625 68 = vx_J h 625 68 ∧ ∃ gc gr am, vn_G h1 R kt m (l ++ [u]) gc gr am) ∨ (vx_J h1 625 68 = 1 ∧ vn_Gf R kt (l ++ [u])))
theorem vc_86_131 {g0 : ve_H} {v1 v2 v3 v5 v6 : Int} (h42 : vx_J h 625 42 = c) (hc : c < 61) (h39 : vx_J h 639 c = R.2.2.1.1 - 4) (hk : 6 ≤ R.2.2.1.1 ∧ R.2.2.1.1 ≤ 9) (m4 : m ≤ 4) (hv1 : v1 = m) (C : vn_G h R kt m l gc gr am) (c200 : gc ≤ 200) (hv5 : v5 = gc) (gv : ∀ k, k < m → vy_vr (vm_ky R kt u (k + 1)) (vx_K h 669 k)) (B : vy_vr (vm_gl R u (kt + 1)) v3) (no : ∀ g, g < gc → ¬ vr_eq 5 (gr g) (vm_ky R kt u)) (F0 : vx_fr vn_Wg g0 h) (e68 : vx_J h 625 68 = vx_J g0 625 68) :
    ∀ (n k : Nat) (g : ve_H) (z : Int), n = m - k → k ≤ m → z = k → vx_T 625 672 g → vx_fr (fun a i => a = 670 ∧ 4 * gc ≤ i) h g → (∀ k', k' < k → vy_vr (vm_ky R kt u (k' + 1)) (vx_K g 670 (4 * gc + k'))) → vx_W (d + 2) 86 131 [some (.ref 625), some (.int (vx_i v1)), some (.int (vx_i v2)), some (.long (vx_l v3)), none, some (.int (vx_i v5)), some (.int (vx_i v6)), some (.int (vx_i z))] [] g (vx_RV (vn_tP R kt m l u g0)) := by
  intro n
  have wv : vz_va (vm_gl R u (kt + 1)) := ⟨_, B⟩
  induction n with
  | zero =>
    intro k g z hn hk' hz hT F al
    have ek : k = m := by omega
    subst ek
    have g75 : vx_J g 625 75 = gc := (vx_fr_J F (by omega)).trans C.1
    have g42 : vx_J g 625 42 = c := (vx_fr_J F (by omega)).trans h42
    have g39 : vx_J g 639 c = R.2.2.1.1 - 4 := (vx_fr_J F (by omega)).trans h39
    refine vg_86_131 (d := d + 1) hT ⟨by omega, by omega, fun _ => ?_, fun q => absurd q (by omega)⟩
    rintro h4 e4 _
    rw [g75] at e4
    have j75 : vx_J h4 625 75 = (gc : Int) + 1 := by rw [e4, vx_J_eq (by omega)]
    have j42 : vx_J h4 625 42 = c := by rw [e4, vx_J_ne (by omega)]; exact g42
    have j39 : vx_J h4 639 c = R.2.2.1.1 - 4 := by rw [e4, vx_J_ne (by omega)]; exact g39
    rw [j42, show ((c : Nat) : Int).toNat = c by omega, j39, show v5.toNat = gc by omega]
    have fin : ∀ (y : Int) (h8 : ve_H), vy_vr (if R.2.2.1.1 = 6 ∨ R.2.2.1.1 = 7 then 0 else vm_gl R u (kt + 1)) y → h8 = vx_sK h4 671 gc y → vx_T 625 672 h8 → vx_W (d + 2) 86 210 [some (.ref 625), some (.int (vx_i v1)), some (.int (vx_i v2)), some (.long (vx_l v3)), none, some (.int (vx_i v5)), some (.int (vx_i v6)), some (.int (vx_i z))] [] h8 (vx_RV (vn_tP R kt k l u g0)) := by
      intro y h8 hy e8 hT8
      refine vn_up (d := d) hT8 (by rw [e8, vx_J_sK]; exact j42) hc (by rw [e8, vx_J_sK]; exact j39) hk (g := gc) (by omega) hv5 (by rw [e8, vx_K_eq (vy_vr_l hy).1]; exact hy) (fun q => by rw [if_pos q]; decide) B ?_
      intro y2 h9 hy2 e9 _
      have F9 : vx_fr (fun a k => (a = 625 ∧ k = 75) ∨ (a = 670 ∧ 4 * gc ≤ k) ∨ (a = 671 ∧ k = gc)) h h9 := vx_fr_sK (vx_fr_sK (vx_fr_sJ (vx_fr_mono F (fun a k q => by omega)) e4 (by omega)) e8 (by omega)) e9 (by omega)
      refine ⟨vx_fr_trans F0 (vx_fr_mono F9 (fun a k q => by omega)), Or.inl ⟨(vx_fr_J F9 (by omega)).trans e68, gc + 1, _, _, vn_G_new C c200 no wv hk F9 ?_ (fun k' h' => ?_) m4 hy2 (by rw [e9, vx_K_eq (vy_vr_l hy2).1])⟩⟩
      · rw [e9, vx_J_sK, e8, vx_J_sK]; exact j75
      · rw [e9, vx_K_ne (by omega), e8, vx_K_ne (by omega), e4, vx_K_sJ]; exact al k' h'
    have v0 : vy_vr 0 0 := Or.inl ⟨rfl, by omega, by omega⟩
    refine ⟨by omega, fun q => ⟨by omega, fun h8 e8 hT8 => fin 0 h8 ?_ e8 hT8⟩, fun q => ⟨by omega, fun q2 => ⟨by omega, fun h8 e8 hT8 => fin v3 h8 ?_ e8 hT8⟩, fun q2 => ⟨by omega, fun h8 e8 hT8 => fin 0 h8 ?_ e8 hT8⟩⟩⟩
    · rw [if_pos (by omega)]; exact v0
    · rw [if_neg (by omega)]; exact B
    · rw [if_pos (by omega)]; exact v0
  | succ n ih =>
    intro k g z hn hk' hz hT F al
    refine vg_86_131 (d := d + 1) hT ⟨by omega, by omega, fun q => absurd q (by omega), fun _ => ⟨by omega, by omega, ?_⟩⟩
    rintro h9 e9 hT9
    have gk := gv k (by omega)
    rw [show z.toNat = k by omega, show (4 * v5 + z).toNat = 4 * gc + k by omega, vx_fr_K F (by omega)] at e9
    refine ih (k + 1) h9 (z + 1) (by omega) (by omega) (by omega) hT9 (vx_fr_sK F e9 (by omega)) (fun k' h' => ?_)
    by_cases e : k' = k
    · rw [e, e9, vx_K_eq (vy_vr_l gk).1]; exact gk
    · rw [e9, vx_K_ne (by omega)]; exact al k' (by omega)
end
