/-! The engine's small methods: whether a literal holds: the class -/
abbrev vm_W (a k : Nat) : Prop := (a = 21 ∧ k = 12) ∨ (a = 23 ∧ k = 4) ∨ (24 ≤ a ∧ a ≤ 33) ∨ (a = 34 ∧ k = 4) ∨ (35 ≤ a ∧ a ≤ 38) ∨ ((a = 617 ∨ a = 621) ∧ k = 4) ∨ (618 ≤ a ∧ a ≤ 620) ∨ (622 ≤ a ∧ a ≤ 624)
/-- the same without the answers -/
abbrev vm_Wn (a k : Nat) : Prop := (a = 21 ∧ k = 12) ∨ (a = 23 ∧ k = 4) ∨ (24 ≤ a ∧ a ≤ 33) ∨ (a = 34 ∧ k = 4) ∨ (35 ≤ a ∧ a ≤ 38)
/-- what a question's search touches -/
abbrev vm_Wk (a b k : Nat) : Prop := (b = 21 ∧ 6 ≤ k) ∨ (31 ≤ b ∧ b ≤ 33) ∨ (b = a ∧ k = 4) ∨ (a < b ∧ b ≤ a + 3)
section
variable {u w v : Nat → Int} {b b1 : Int} {t x r : Int} {i : Nat}
theorem vm_Wn_W {a k : Nat} (q : vm_Wn a k) : vm_W a k := by omega
theorem vm_sp_ag {C C' : (Nat → Int) → Prop} (h : vm_sp b b1 C u r w) (hc : ∀ v, vm_ag b u v → (C v ↔ C' v)) : vm_sp b b1 C' u r w := by
  obtain ⟨h1, h2⟩ := h
  refine ⟨h1, ?_⟩
  rcases h2 with ⟨q1, q2, q3, q4⟩ | ⟨q1, q2⟩
  · exact Or.inl ⟨q1, (hc w h1).mp q2, q3, fun v hv hC => q4 v hv ((hc v hv).mpr hC)⟩
  · exact Or.inr ⟨q1, fun v hv hC => q2 v hv ((hc v hv).mpr hC)⟩
theorem vm_sp_01 {C : (Nat → Int) → Prop} (h : vm_sp b b1 C u r w) : r = 0 ∨ r = 1 := by
  rcases h.2 with ⟨q, _⟩ | ⟨q, _⟩
  · exact Or.inr q
  · exact Or.inl q
end
section
variable {d o l : Nat} {h h1 : ve_H} {L : vy_L} {x y b b1 t : Int}
/-- the rule's cells lie apart from what a search touches -/
theorem vm_o (ho : vx_o 1 625 7 o) : (o = 8 ∨ (49 ≤ o ∧ o ≤ 319) ∨ (338 ≤ o ∧ o ≤ 608)) ∧ vx_r o 1 = o + 1 ∧ vx_r o 8 = o + 2 ∧ vx_r o 9 = o + 3 ∧ vx_r o 10 = o + 4 ∧ vx_r o 11 = o + 5 ∧ vx_r o 12 = o + 6 ∧ vx_r o 13 = o + 7 ∧ vx_r o 14 = o + 8 := by
  have t := vx_ro ho
  exact ⟨t.2.2.2.2.2.2.2.2, t.1, t.2.1, t.2.2.1, t.2.2.2.1, t.2.2.2.2.1, t.2.2.2.2.2.1, t.2.2.2.2.2.2.1, t.2.2.2.2.2.2.2.1⟩
theorem vm_oW (ho : vx_o 1 625 7 o) {a k : Nat} (h1 : o ≤ a) (h2 : a ≤ o + 8) : ¬ vm_W a k := by
  have t := (vm_o ho).1
  omega
theorem vm_rl_fr {S : Nat → Nat → Prop} (R : vm_rl h o L) (f : vx_fr S h h1) (hs : ∀ a k, S a k → vm_W a k) : vm_rl h1 o L := by
  obtain ⟨r1, r2, r3⟩ := R
  have t := vm_o r2
  refine ⟨(vx_fr_R f (fun q => absurd (hs _ _ q) (by omega))).trans r1, r2, vy_cl_fr r3 f ⟨fun q => vm_oW r2 (Nat.le_refl _) (by omega) (hs _ _ q), fun k => ⟨fun q => vm_oW r2 (a := vx_r o 8) (by omega) (by omega) (hs _ _ q), fun q => vm_oW r2 (a := vx_r o 9) (by omega) (by omega) (hs _ _ q), fun q => vm_oW r2 (a := vx_r o 10) (by omega) (by omega) (hs _ _ q), fun q => vm_oW r2 (a := vx_r o 11) (by omega) (by omega) (hs _ _ q)⟩⟩⟩
theorem vm_W1_W {a k : Nat} (q : vm_W1 a k) : vm_W a k := by omega
theorem vc_120 {O1 : Int} {n : Nat} (hT : vx_T 1 625 h) (R : vm_rl h o L) (hx : x = l) (W : vm_lw O1 n L l b b1) (k14 : L.2.1 l ≠ 14) (k15 : L.2.1 l ≠ 15) (ok : vm_ok b (vm_hv h)) : vx_CI (d + 3) 120 [.ref 21, .int (vx_i x), .int (vx_i b)] h (fun r h1 => vx_fr vm_W1 h h1 ∧ ∀ P N, vm_sp b b1 (fun u => vm_li P N (L.2.1 l) (L.2.2.1 l) (L.2.2.2.2 l) u) (vm_hv h) r (vm_hv h1)) := by
  have W0 := W
  obtain ⟨hl, w1, w2, w3, w4, w5, w6⟩ := W
  have l6 := R.2.2.2.1
  have rd := w5 k14
  refine vg_120 hT ⟨o, R.1, R.2.1, by omega, ?_⟩
  rw [(vm_kd R hl hx).1]
  refine ⟨fun h5 => vx_CI_mono (vc_123 (d := d) hT R hx W0 h5 ok) ?_, fun h61 => ⟨by omega, ?_⟩, fun hn => ?_⟩
  · rintro r4 h4 _ ⟨f, s⟩ _
    refine ⟨vm_sp_01 s, f, fun P N => vm_sp_ag s (fun v _ => ?_)⟩
    unfold vm_li
    rw [h5]
    exact ⟨fun q => ⟨fun t => absurd t (by decide), fun t => absurd t (by decide), fun _ => q, fun t => absurd t (by decide)⟩, fun q => q.2.2.1 rfl⟩
  · have z := w1.2.2.1 (by rw [h61]; decide)
    have na : ∀ k, k < 4 → L.2.2.2.2 l k ≠ 288230376151711744 := w1.2.2.2.2 (Or.inr (Or.inl (by rw [h61]; decide)))
    have hb1 : ∀ i, vb b1 i = true → vb b i = true ∨ vz_v (L.2.2.2.2 l 0) i ∨ vz_v (L.2.2.2.2 l 1) i := by
      intro i hi
      rcases (w6 i).mp hi with q | ⟨k, hk, q⟩
      · exact Or.inl q
      · by_cases k0 : k = 0
        · rw [k0] at q; exact Or.inr (Or.inl q)
        by_cases k1 : k = 1
        · rw [k1] at q; exact Or.inr (Or.inr q)
        by_cases k2 : k = 2
        · rw [k2, z.1] at q; exact absurd q vz_v0
        · rw [show k = 3 by omega, z.2] at q; exact absurd q vz_v0
    have fin : ∀ {g g1 : ve_H} {r y : Int} {k k' : Nat}, g = h → ((k = 0 ∧ k' = 1) ∨ (k = 1 ∧ k' = 0)) → (∀ i, vz_v (L.2.2.2.2 l k') i → vb b i = true) → y = vm_v (vm_hv h) (L.2.2.2.2 l k') → vm_sp b b1 (fun u => vm_v u (L.2.2.2.2 l k) = y) (vm_hv h) r (vm_hv g1) → ∀ P N, vm_sp b b1 (fun u => vm_li P N (L.2.1 l) (L.2.2.1 l) (L.2.2.2.2 l) u) (vm_hv h) r (vm_hv g1) := by
      intro g g1 r y k k' _ hkk hvv hy s P N
      refine vm_sp_ag s (fun u hu => ?_)
      unfold vm_li vm_cp
      rw [h61, hy, vm_v_ag hu hvv]
      constructor
      · intro q
        refine ⟨fun t => absurd t (by decide), fun t => absurd t (by decide), fun t => absurd t (by decide), fun _ => ⟨fun _ => ?_, fun t => absurd t (by decide), fun t => absurd t (by decide), fun t => absurd t (by decide), fun t => absurd t (by decide), fun t => absurd t (by decide)⟩⟩
        rcases hkk with ⟨rfl, rfl⟩ | ⟨rfl, rfl⟩
        · exact q
        · exact q.symm
      · intro q
        have e := (q.2.2.2 (Or.inl rfl)).1 rfl
        rcases hkk with ⟨rfl, rfl⟩ | ⟨rfl, rfl⟩
        · exact e
        · exact e.symm
    rw [vm_tm R hl (k := 0) (by omega) (by omega)]
    refine vx_CI_mono (vc_128 hT (vz_tk_l (w2 0)) w4) ?_
    rintro r7 h7 _ ⟨rfl, c7⟩ _
    refine ⟨fun q => ⟨o, R.1, R.2.1, by omega, by omega, ?_⟩, fun q => ⟨o, R.1, R.2.1, by omega, by omega, ?_⟩⟩
    · have c0 : ∀ i, vz_v (L.2.2.2.2 l 0) i → vb b i = true := by
        rcases c7 with ⟨c, _⟩ | ⟨_, c⟩
        · omega
        · exact c
      rw [vm_tm R hl (k := 0) (z := x * 4) (by omega) (by omega), vm_tm R hl (k := 1) (z := x * 4 + 1) (by omega) (by omega)]
      refine vx_CL_mono (vc_127 hT (vz_tk_l (w2 0))) ?_
      rintro r12 h12 _ ⟨rfl, e12⟩ _
      refine vx_CI_mono (vc_125 (d := d + 1) (b1 := b1) hT (vz_tk_l (w2 1)) (by rw [e12]; exact vm_v_va ok c0 (w2 0) (na 0 (by omega))) w4 ok (fun i hi => by
        rcases hb1 i hi with q | q | q
        · exact Or.inl q
        · exact Or.inl (c0 i q)
        · exact Or.inr q)) ?_
      rintro r13 h13 _ ⟨f, s⟩ _
      exact ⟨vm_sp_01 s, f, fin rfl (Or.inr ⟨rfl, rfl⟩) c0 e12 s⟩
    · have c1 : ∀ i, vz_v (L.2.2.2.2 l 1) i → vb b i = true := by
        rcases rd.1 h61 with c | c
        · rcases c7 with ⟨_, i, c2, c3⟩ | ⟨c2, _⟩
          · rw [c i c2] at c3; exact absurd c3 (by decide)
          · exact absurd c2 q
        · exact c
      rw [vm_tm R hl (k := 0) (z := x * 4) (by omega) (by omega), vm_tm R hl (k := 1) (z := x * 4 + 1) (by omega) (by omega)]
      refine vx_CL_mono (vc_127 hT (vz_tk_l (w2 1))) ?_
      rintro r18 h18 _ ⟨rfl, e18⟩ _
      refine vx_CI_mono (vc_125 (d := d + 1) (b1 := b1) hT (vz_tk_l (w2 0)) (by rw [e18]; exact vm_v_va ok c1 (w2 1) (na 1 (by omega))) w4 ok (fun i hi => by
        rcases hb1 i hi with q | q | q
        · exact Or.inl q
        · exact Or.inr q
        · exact Or.inl (c1 i q))) ?_
      rintro r19 h19 _ ⟨f, s⟩ _
      exact ⟨vm_sp_01 s, f, fin rfl (Or.inl ⟨rfl, rfl⟩) c1 e18 s⟩
  · have hr : vy_rel (L.2.1 l) := by
      rcases w1.1 with q | q | q | q
      · exact absurd q k14
      · exact absurd q k15
      · exact absurd q hn.1
      · exact q
    have al := rd.2.2 hn.2.1 hn.1
    refine vx_CI_mono (vc_126 (d := d + 1) hT R hl hx hr hn.2.1 w2) ?_
    rintro r21 h21 _ ⟨rfl, c⟩ _
    refine ⟨by omega, vx_fr_refl, fun P N => vm_sp_ask ok (fun i hi => ?_) (fun u w a q => vm_li_ag a al q) ?_⟩
    · rcases (w6 i).mp hi with q | ⟨k, hk, q⟩
      · exact q
      · exact al k hk i q
    · rcases c with ⟨c1, c2⟩ | ⟨c1, c2⟩
      · exact Or.inl ⟨c1, fun t => absurd t k14, fun t => absurd t k15, fun t => absurd t hn.1, fun _ => c2⟩
      · exact Or.inr ⟨c1, fun t => c2 (t.2.2.2 hr)⟩
/-- the first k places of a row are as the atom asks -/
def vm_ak (u A f : Nat → Int) (n : Nat) : Prop := ∀ k, k < n → vm_m1 u (A k) (f (k + 1))
theorem vc_119_6 {f : Nat → Int} {i : Nat} {z3 : Int} {v : Nat → Int} (R : vm_rl h o L) (hl : l < L.1) (hx : x = l) (hy : y = i) (hi : i < 201) (hf : ∀ k, k < 4 → vx_K h 26 (i * 5 + 1 + k) = f (k + 1)) (hv : ∀ k, k < 4 → vz_va (f (k + 1))) (ht : ∀ k, vz_tk (L.2.2.2.2 l k)) (ev : v = vm_hv h) (hb1 : ∀ i, vb b1 i = true ↔ (vb b i = true ∨ vz_lv L l i)) :
    ∀ (m k : Nat) (g : ve_H) (c z : Int) (v6 v8 v10 : Option Value), m = 4 - k → k ≤ 4 → z = k → vx_T 1 625 g → vx_fr vm_W1 h g → (0 ≤ c ∧ c < 256) → (∀ j, vb c j = true ↔ (vb b j = true ∨ ∃ k', k' < k ∧ vz_v (L.2.2.2.2 l k') j)) → vm_ag b v (vm_hv g) → vm_ak (vm_hv g) (L.2.2.2.2 l) f k → vm_ok c (vm_hv g) → (∀ u, vm_ag b v u → vm_ak u (L.2.2.2.2 l) f k → vm_ag c (vm_hv g) u) →
    vx_W (d + 1) 119 6 [some (.ref 21), some (.int (vx_i x)), some (.int (vx_i y)), some (.int (vx_i z3)), some (.int (vx_i c)), some (.int (vx_i z)), v6, none, v8, none, v10] [] g (vx_RI (fun r h1 => vx_fr vm_W1 h h1 ∧ vm_sp b b1 (fun u => vm_at u (L.2.2.2.2 l) f) v r (vm_hv h1))) := by
  have l6 := R.2.2.2.1
  intro m
  induction m with
  | zero =>
    intro k g c z v6 v8 v10 hm hk hz hT F hc cb ag ak ok un
    have e : k = 4 := by omega
    subst e
    refine vg_119_6 hT ⟨by omega, fun _ => ⟨F, ag, Or.inl ⟨rfl, ak, fun j hj => ok j ((cb j).mpr ((hb1 j).mp hj)), fun u hu hC j hj => un u hu hC j ((cb j).mpr ((hb1 j).mp hj))⟩⟩, fun q => absurd q (by omega)⟩
  | succ m ih =>
    intro k g c z v6 v8 v10 hm hk hz hT F hc cb ag ak ok un
    have Rg := vm_rl_fr R F (fun a k q => vm_W1_W q)
    have eK : vx_K g 26 (y * 5 + 1 + z).toNat = f (k + 1) := by
      rw [show (y * 5 + 1 + z).toNat = i * 5 + 1 + k by omega, vx_fr_K F (show ¬ vm_W1 26 _ by omega)]
      exact hf k (by omega)
    refine vg_119_6 hT ⟨by omega, fun q => absurd q (by omega), fun _ => ⟨o, Rg.1, Rg.2.1, by omega, by omega, ?_⟩⟩
    rw [vm_tm Rg hl (k := k) (by omega) (by omega), eK]
    refine vx_CI_mono (vc_17 hT (vz_tk_l (ht k))) ?_
    rintro r6 h6 _ ⟨rfl, c6⟩ _
    -- the places so far and one more
    have akS : ∀ {u : Nat → Int}, vm_ak u (L.2.2.2.2 l) f k → vm_m1 u (L.2.2.2.2 l k) (f (k + 1)) → vm_ak u (L.2.2.2.2 l) f (k + 1) := by
      intro u a1 a2 k' hk'
      by_cases q : k' = k
      · rw [q]; exact a2
      · exact a1 k' (by omega)
    have akL : ∀ {u : Nat → Int}, vm_ak u (L.2.2.2.2 l) f (k + 1) → vm_ak u (L.2.2.2.2 l) f k := fun a k' hk' => a k' (by omega)
    have no : (∀ u, vm_ag b v u → vm_ak u (L.2.2.2.2 l) f k → ¬ vm_m1 u (L.2.2.2.2 l k) (f (k + 1))) → vx_fr vm_W1 h h6 ∧ vm_sp b b1 (fun u => vm_at u (L.2.2.2.2 l) f) v 0 (vm_hv h6) := fun q => ⟨F, ag, Or.inr ⟨rfl, fun u hu hC => q u hu (fun k' hk' => hC k' (by omega)) (hC k (by omega))⟩⟩
    refine ⟨fun q6 => ?_, fun q6 => ?_⟩
    · have nv : ∀ j, ¬ vz_v (L.2.2.2.2 l k) j := fun j hj => by
        have := vz_v_in.mp ⟨j, hj⟩
        omega
      have cb' : ∀ j, vb c j = true ↔ (vb b j = true ∨ ∃ k', k' < k + 1 ∧ vz_v (L.2.2.2.2 l k') j) := fun j => (cb j).trans ⟨fun q => by
        rcases q with q | ⟨k', q1, q2⟩
        · exact Or.inl q
        · exact Or.inr ⟨k', by omega, q2⟩, fun q => by
        rcases q with q | ⟨k', q1, q2⟩
        · exact Or.inl q
        · by_cases e : k' = k
          · rw [e] at q2; exact absurd q2 (nv j)
          · exact Or.inr ⟨k', by omega, q2⟩⟩
      refine ⟨fun qa => ih (k + 1) _ c (z + 1) _ _ _ (by omega) (by omega) (by omega) hT F hc cb' ag (akS ak (Or.inl qa)) ok (fun u hu hA => un u hu (akL hA)), fun qa => ⟨fun qe => ih (k + 1) _ c (z + 1) _ _ _ (by omega) (by omega) (by omega) hT F hc cb' ag (akS ak (Or.inr (by rw [vm_v_c nv]; exact qe))) ok (fun u hu hA => un u hu (akL hA)), fun qe => no (fun u _ _ q => ?_)⟩⟩
      rcases q with q | q
      · exact qa q
      · rw [vm_v_c nv] at q; exact qe q
    · obtain ⟨j, hj⟩ := vz_v_in.mpr (show 144115188075855872 ≤ L.2.2.2.2 l k ∧ L.2.2.2.2 l k < 144115188075855880 by omega)
      have hj1 := hj.1
      have hj2 := hj.2
      have na : L.2.2.2.2 l k ≠ 288230376151711744 := by omega
      have ej : (L.2.2.2.2 l k - 144115188075855872).toNat = j := by omega
      have bt := vb_test (x := c) (v := L.2.2.2.2 l k - 144115188075855872) (by omega) (by omega)
      rw [ej] at bt
      rw [ej]
      refine ⟨fun qb => ?_, fun qb => ?_⟩
      · have hcj : vb c j = true := by
          cases hv : vb c j with
          | true => rfl
          | false => exact absurd (bt.mpr hv) qb
        have cb' : ∀ j, vb c j = true ↔ (vb b j = true ∨ ∃ k', k' < k + 1 ∧ vz_v (L.2.2.2.2 l k') j) := fun j' => ⟨fun q => by
          rcases (cb j').mp q with q | ⟨k', q1, q2⟩
          · exact Or.inl q
          · exact Or.inr ⟨k', by omega, q2⟩, fun q => by
          rcases q with q | ⟨k', q1, q2⟩
          · exact (cb j').mpr (Or.inl q)
          · by_cases e : k' = k
            · rw [e] at q2; rw [vz_v_1 q2 hj]; exact hcj
            · exact (cb j').mpr (Or.inr ⟨k', by omega, q2⟩)⟩
        refine ⟨by omega, fun qe => ih (k + 1) _ c (z + 1) _ _ _ (by omega) (by omega) (by omega) hT F hc cb' ag (akS ak (Or.inr (by rw [vm_v_v hj]; exact qe))) ok (fun u hu hA => un u hu (akL hA)), fun qe => no (fun u hu hA q => ?_)⟩
        rcases q with q | q
        · exact na q
        · rw [vm_v_v hj, ← un u hu hA j hcj] at q
          exact qe q
      · have hcj : vb c j = false := bt.mp qb
        refine ⟨by omega, ?_⟩
        rintro h14 e14 hT14
        have hv14 : ∀ j', vm_hv h14 j' = if j' = j then f (k + 1) else vm_hv h6 j' := by
          intro j'
          show vx_K h14 31 j' = _
          rw [e14]
          by_cases q2 : j' = j
          · rw [if_pos q2, q2, vx_K_eq (vz_va_l (hv k (by omega))).1]
          · rw [if_neg q2, vx_K_ne (by omega)]; rfl
        have hs : 0 ≤ L.2.2.2.2 l k - 144115188075855872 ∧ L.2.2.2.2 l k - 144115188075855872 < 8 := by omega
        have agc : vm_ag c (vm_hv h6) (vm_hv h14) := fun j' hj' => by
          rw [hv14 j', if_neg]
          intro q
          rw [q, hcj] at hj'
          exact absurd hj' (by decide)
        have bc : ∀ i, vb b i = true → vb c i = true := fun i hi => (cb i).mpr (Or.inl hi)
        refine ih (k + 1) h14 _ (z + 1) _ _ _ (by omega) (by omega) (by omega) hT14 (vx_fr_sK F e14 rfl) (vx_or_256 hc (vx_shl_256 hs)) (fun j' => ?_) (vm_ag_trans ag (vm_ag_sub agc bc)) (akS (fun k' hk' => ?_) (Or.inr (by rw [vm_v_v hj, hv14 j, if_pos rfl]))) (fun j' hj' => ?_) (fun u hu hA j' hj' => ?_)
        · rw [vb_or (by omega) (by have := vx_shl_256 hs; omega), vb_shl (by omega), Bool.or_eq_true, cb j', decide_eq_true_iff, ej]
          constructor
          · rintro ((q | ⟨k', q1, q2⟩) | q)
            · exact Or.inl q
            · exact Or.inr ⟨k', by omega, q2⟩
            · exact Or.inr ⟨k, by omega, by rw [← q]; exact hj⟩
          · rintro (q | ⟨k', q1, q2⟩)
            · exact Or.inl (Or.inl q)
            · by_cases e : k' = k
              · rw [e] at q2; exact Or.inr (vz_v_1 hj q2)
              · exact Or.inl (Or.inr ⟨k', by omega, q2⟩)
        · exact (vm_m1_ag agc (fun i hi => (cb i).mpr (Or.inr ⟨k', hk', hi⟩))).mp (ak k' hk')
        · rw [hv14 j']
          by_cases q2 : j' = j
          · rw [if_pos q2]; exact hv k (by omega)
          · rw [if_neg q2]
            rw [vb_or (by omega) (by have := vx_shl_256 hs; omega), vb_shl (by omega), Bool.or_eq_true, decide_eq_true_iff, ej] at hj'
            rcases hj' with q | q
            · exact ok j' q
            · exact absurd q.symm q2
        · rw [hv14 j']
          by_cases q2 : j' = j
          · rw [if_pos q2, q2]
            rcases hA k (by omega) with q | q
            · exact absurd q na
            · rw [vm_v_v hj] at q; exact q.symm
          · rw [if_neg q2]
            rw [vb_or (by omega) (by have := vx_shl_256 hs; omega), vb_shl (by omega), Bool.or_eq_true, decide_eq_true_iff, ej] at hj'
            rcases hj' with q | q
            · exact un u hu (akL hA) j' q
            · exact absurd q.symm q2
theorem vc_119 {f : Nat → Int} {i : Nat} (hT : vx_T 1 625 h) (R : vm_rl h o L) (hl : l < L.1) (hx : x = l) (hy : y = i) (hi : i < 201) (hf : ∀ k, k < 4 → vx_K h 26 (i * 5 + 1 + k) = f (k + 1)) (hv : ∀ k, k < 4 → vz_va (f (k + 1))) (ht : ∀ k, vz_tk (L.2.2.2.2 l k)) (hb : 0 ≤ b ∧ b < 256) (ok : vm_ok b (vm_hv h)) (hb1 : ∀ i, vb b1 i = true ↔ (vb b i = true ∨ vz_lv L l i)) : vx_CI (d + 1) 119 [.ref 21, .int (vx_i x), .int (vx_i y), .int (vx_i b)] h (fun r h1 => vx_fr vm_W1 h h1 ∧ vm_sp b b1 (fun u => vm_at u (L.2.2.2.2 l) f) (vm_hv h) r (vm_hv h1)) :=
  vg_119 hT (vc_119_6 R hl hx hy hi hf hv ht rfl hb1 4 0 h b 0 none none none rfl (by omega) rfl hT vx_fr_refl hb (fun j => ⟨fun q => Or.inl q, fun q => by
    rcases q with q | ⟨k', q, _⟩
    · exact q
    · exact absurd q (by omega)⟩) vm_ag_refl (fun k hk => absurd hk (by omega)) ok (fun u hu _ => hu))
end
