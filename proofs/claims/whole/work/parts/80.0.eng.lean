/-! The engine's small methods: values, comparisons, what is reckoned: the class -/
section
variable {d o l : Nat} {h : ve_H} {L : vy_L} {x y b b1 t : Int}
theorem vc_127 (hT : vx_T 1 625 h) (hx : vx_rL x) : vx_CL d 127 [.ref 21, .long (vx_l x)] h (fun r h1 => h1 = h ∧ r = vm_v (vm_hv h) x) := by
  refine vg_127 hT ⟨hx, fun q => ⟨rfl, ?_⟩, fun q => ⟨fun q2 => ⟨by omega, rfl, ?_⟩, fun q2 => ⟨rfl, ?_⟩⟩⟩
  · unfold vm_v; rw [if_neg (by omega)]
  · unfold vm_v; rw [if_pos (by omega)]; rfl
  · unfold vm_v; rw [if_neg (by omega)]
theorem vc_128 (hT : vx_T 1 625 h) (hx : vx_rL x) (hb : 0 ≤ b ∧ b < 256) : vx_CI d 128 [.long (vx_l x), .int (vx_i b)] h (fun r h1 => h1 = h ∧ ((r = 1 ∧ ∃ i, vz_v x i ∧ vb b i = false) ∨ (r = 0 ∧ ∀ i, vz_v x i → vb b i = true))) := by
  refine vg_128 hT ⟨hx, fun q => ⟨rfl, Or.inr ⟨rfl, fun i hi => ?_⟩⟩, fun q => ⟨fun q2 => ⟨fun q3 => ⟨rfl, Or.inr ⟨rfl, fun i hi => ?_⟩⟩, fun q3 => ⟨rfl, Or.inl ⟨rfl, ?_⟩⟩⟩, fun q2 => ⟨rfl, Or.inr ⟨rfl, fun i hi => ?_⟩⟩⟩⟩
  · have := hi.2; omega
  · have e : (x - 144115188075855872).toNat = i := by have := hi.2; omega
    have t := vb_test (x := b) (v := x - 144115188075855872) (by omega) (by omega)
    rw [e] at t
    cases hv : vb b i with
    | true => rfl
    | false => exact absurd (t.mpr hv) q3
  · refine ⟨(x - 144115188075855872).toNat, ⟨by omega, by omega⟩, ?_⟩
    exact (vb_test (x := b) (v := x - 144115188075855872) (by omega) (by omega)).mp q3
  · have := hi.1; have := hi.2; omega
theorem vc_129 (hT : vx_T 1 625 h) (hx : vx_rL x) : vx_CI d 129 [.long (vx_l x)] h (fun r h1 => h1 = h ∧ ((r = 1 ∧ x < 72057594037927936) ∨ (r = 0 ∧ 72057594037927936 ≤ x))) :=
  vg_129 hT ⟨hx, fun q => ⟨rfl, Or.inr ⟨rfl, q⟩⟩, fun q => ⟨rfl, Or.inl ⟨rfl, q⟩⟩⟩
theorem vc_124 (hT : vx_T 1 625 h) (hy : vy_opn y) (hb : vx_rI b) (hz : ¬ (b = 0 ∧ (y = 47 ∨ y = 37))) : vx_CI d 124 [.int (vx_i x), .int (vx_i y), .int (vx_i b)] h (fun r h1 => h1 = h ∧ r = vm_rk y x b) := by
  refine vh_124 hT ⟨by omega, fun q => ⟨rfl, ?_⟩, fun q => ⟨rfl, ?_⟩, fun q => ⟨rfl, ?_⟩, fun q => ⟨hb, fun q2 => ⟨⟨hb, q2⟩, rfl, ?_⟩, fun q2 => absurd ⟨q2, Or.inl q⟩ hz⟩, fun q => ⟨hb, fun q2 => ⟨⟨hb, q2⟩, rfl, ?_⟩, fun q2 => absurd ⟨q2, Or.inr (by omega)⟩ hz⟩⟩
  · unfold vm_rk; rw [if_neg (by omega), if_neg (by omega), if_pos q]
  · unfold vm_rk; rw [if_pos q]
  · unfold vm_rk; rw [if_neg (by omega), if_pos q]
  · unfold vm_rk; rw [if_neg (by omega), if_neg (by omega), if_neg (by omega), if_pos q]
  · unfold vm_rk; rw [if_neg (by omega), if_neg (by omega), if_neg (by omega), if_neg (by omega)]
abbrev vm_W1 (a _k : Nat) : Prop := a = 31
theorem vm_hv_fr {S : Nat → Nat → Prop} {h1 : ve_H} (f : vx_fr S h h1) (hs : ∀ k, ¬ S 31 k) : vm_hv h1 = vm_hv h := funext (fun v => vx_fr_K f (hs v))
/-- a term takes a value, or has it -/
theorem vc_125 (hT : vx_T 1 625 h) (ht : vx_rL t) (hy : vz_va y) (hb : 0 ≤ b ∧ b < 256) (ok : vm_ok b (vm_hv h)) (hb1 : ∀ i, vb b1 i = true → vb b i = true ∨ vz_v t i) : vx_CI (d + 1) 125 [.ref 21, .long (vx_l t), .long (vx_l y), .int (vx_i b)] h (fun r h1 => vx_fr vm_W1 h h1 ∧ vm_sp b b1 (fun u => vm_v u t = y) (vm_hv h) r (vm_hv h1)) := by
  refine vg_125 hT (vx_CI_mono (vc_128 hT ht hb) ?_)
  rintro r1 h1 _ ⟨rfl, c⟩ hT1
  refine ⟨fun q => vx_CL_mono (vc_127 hT1 ht) ?_, fun q => ?_⟩
  · have c2 : ∀ i, vz_v t i → vb b i = true := by
      rcases c with ⟨c1, _⟩ | ⟨_, c2⟩
      · omega
      · exact c2
    have hbb : ∀ i, vb b1 i = true → vb b i = true := fun i hi => by
      rcases hb1 i hi with q | q
      · exact q
      · exact c2 i q
    rintro r3 h3 _ ⟨rfl, e3⟩ _
    refine ⟨(vz_va_l hy).1, fun q3 => ⟨vx_fr_refl, vm_sp_ask ok hbb (fun u w a hu => by rw [← vm_v_ag a c2]; exact hu) (Or.inr ⟨rfl, fun e => q3 (e3.trans e)⟩)⟩, fun q3 => ⟨vx_fr_refl, vm_sp_ask ok hbb (fun u w a hu => by rw [← vm_v_ag a c2]; exact hu) (Or.inl ⟨rfl, e3.symm.trans q3⟩)⟩⟩
  · obtain ⟨i, hi, hbi⟩ : ∃ i, vz_v t i ∧ vb b i = false := by
      rcases c with ⟨_, c2⟩ | ⟨c1, _⟩
      · exact c2
      · exact absurd c1 q
    have h8 := hi.1
    have e8 := hi.2
    refine ⟨by omega, ?_⟩
    rintro h7 e7 _
    rw [show (t - 144115188075855872).toNat = i by omega] at e7
    have hv : ∀ j, vm_hv h7 j = if j = i then y else vm_hv h1 j := by
      intro j
      show vx_K h7 31 j = _
      rw [e7]
      by_cases q2 : j = i
      · rw [if_pos q2, q2, vx_K_eq (vz_va_l hy).1]
      · rw [if_neg q2, vx_K_ne (by omega)]; rfl
    refine ⟨vx_fr_sK vx_fr_refl e7 rfl, fun j hj => ?_, Or.inl ⟨rfl, ?_, fun j hj => ?_, fun u hu hC j hj => ?_⟩⟩
    · rw [hv j, if_neg]
      intro q2
      rw [q2, hbi] at hj
      exact absurd hj (by decide)
    · show vm_v (vm_hv h7) t = y
      rw [vm_v_v hi, hv i, if_pos rfl]
    · rw [hv j]
      by_cases q2 : j = i
      · rw [if_pos q2]; exact hy
      · rw [if_neg q2]
        rcases hb1 j hj with q3 | q3
        · exact ok j q3
        · exact absurd (vz_v_1 q3 hi) q2
    · rw [hv j]
      by_cases q2 : j = i
      · rw [if_pos q2, q2]
        have hC' : vm_v u t = y := hC
        rw [vm_v_v hi] at hC'
        exact hC'.symm
      · rw [if_neg q2]
        rcases hb1 j hj with q3 | q3
        · exact hu j q3
        · exact absurd (vz_v_1 q3 hi) q2
/-- what is known of the rule that is worked -/
def vm_rl (h : ve_H) (o : Nat) (L : vy_L) : Prop := ve_R h 21 7 = some o ∧ vx_o 1 625 7 o ∧ vy_cl h o L
/-- a literal that can be worked, by the mask before it and behind it -/
def vm_lw (O1 : Int) (n : Nat) (L : vy_L) (l : Nat) (b b1 : Int) : Prop := l < L.1 ∧ vz_lw O1 n (L.2.1 l) (L.2.2.2.2 l) ∧ (∀ k, vz_tk (L.2.2.2.2 l k)) ∧ (L.2.1 l = 5 → vy_opn (L.2.2.1 l)) ∧ (0 ≤ b ∧ b < 256) ∧ (L.2.1 l ≠ 14 → vz_rd (L.2.1 l) (L.2.2.2.2 l) (fun i => vb b i = true)) ∧ ∀ i, vb b1 i = true ↔ (vb b i = true ∨ vz_lv L l i)
theorem vm_tm {k : Nat} (R : vm_rl h o L) (hl : l < L.1) (hk : k < 4) {z : Int} (hz : z = ((l * 4 + k : Nat) : Int)) : vx_K h (vx_r o 11) z.toNat = L.2.2.2.2 l k := by
  rw [hz, Int.toNat_natCast]
  exact (R.2.2.2.2 l hl).2.2.2 k hk
theorem vm_kd (R : vm_rl h o L) (hl : l < L.1) {z : Int} (hz : z = l) : vx_J h (vx_r o 8) z.toNat = L.2.1 l ∧ vx_J h (vx_r o 9) z.toNat = L.2.2.1 l := by
  rw [show z.toNat = l by omega]
  exact ⟨(R.2.2.2.2 l hl).1, (R.2.2.2.2 l hl).2.1⟩
theorem vc_126 (hT : vx_T 1 625 h) (R : vm_rl h o L) (hl : l < L.1) (hx : x = l) (hk : vy_rel (L.2.1 l)) (h61 : L.2.1 l ≠ 61) (ht : ∀ k, vz_tk (L.2.2.2.2 l k)) : vx_CI (d + 1) 126 [.ref 21, .int (vx_i x)] h (fun r h1 => h1 = h ∧ ((r = 1 ∧ vm_cp (L.2.1 l) (vm_v (vm_hv h) (L.2.2.2.2 l 0)) (vm_v (vm_hv h) (L.2.2.2.2 l 1))) ∨ (r = 0 ∧ ¬ vm_cp (L.2.1 l) (vm_v (vm_hv h) (L.2.2.2.2 l 0)) (vm_v (vm_hv h) (L.2.2.2.2 l 1))))) := by
  have l6 := R.2.2.2.1
  refine vg_126 hT ⟨o, R.1, R.2.1, by omega, ?_⟩
  rw [vm_tm R hl (k := 0) (by omega) (by omega)]
  refine vx_CL_mono (vc_127 hT (vz_tk_l (ht 0))) ?_
  rintro r3 h3 _ ⟨rfl, e3⟩ _
  refine ⟨o, R.1, R.2.1, by omega, ?_⟩
  rw [vm_tm R hl (k := 1) (by omega) (by omega)]
  refine vx_CL_mono (vc_127 hT (vz_tk_l (ht 1))) ?_
  rintro r6 h6 _ ⟨rfl, e6⟩ _
  refine ⟨o, R.1, R.2.1, by omega, ?_⟩
  rw [(vm_kd R hl hx).1, ← e3, ← e6]
  unfold vm_cp
  refine ⟨fun c => ⟨fun q => ⟨rfl, Or.inr ⟨rfl, fun t => t.2.1 c q⟩⟩, fun q => ⟨rfl, Or.inl ⟨rfl, by omega, by omega, by omega, by omega, by omega, by omega⟩⟩⟩, fun c => ⟨fun q => ⟨rfl, Or.inr ⟨rfl, fun t => absurd (t.2.2.2.1 c) (by omega)⟩⟩, fun q => ⟨rfl, Or.inl ⟨rfl, by omega, by omega, by omega, by omega, by omega, by omega⟩⟩⟩, fun c => ⟨fun q => ⟨rfl, Or.inr ⟨rfl, fun t => absurd (t.2.2.1 c) (by omega)⟩⟩, fun q => ⟨rfl, Or.inl ⟨rfl, by omega, by omega, by omega, by omega, by omega, by omega⟩⟩⟩, fun c => ⟨fun q => ⟨rfl, Or.inr ⟨rfl, fun t => absurd (t.2.2.2.2.1 c) (by omega)⟩⟩, fun q => ⟨rfl, Or.inl ⟨rfl, by omega, by omega, by omega, by omega, by omega, by omega⟩⟩⟩, fun c => ⟨fun q => ⟨rfl, Or.inr ⟨rfl, fun t => absurd (t.2.2.2.2.2 (by omega)) (by omega)⟩⟩, fun q => ⟨rfl, Or.inl ⟨rfl, by omega, by omega, by omega, by omega, by omega, by omega⟩⟩⟩⟩
/-- what is reckoned -/
theorem vc_123 {O1 : Int} {n : Nat} (hT : vx_T 1 625 h) (R : vm_rl h o L) (hx : x = l) (W : vm_lw O1 n L l b b1) (h5 : L.2.1 l = 5) (ok : vm_ok b (vm_hv h)) : vx_CI (d + 2) 123 [.ref 21, .int (vx_i x), .int (vx_i b)] h (fun r h1 => vx_fr vm_W1 h h1 ∧ vm_sp b b1 (fun u => vm_is (L.2.2.1 l) (vm_v u (L.2.2.2.2 l 1)) (vm_v u (L.2.2.2.2 l 2)) (vm_v u (L.2.2.2.2 l 0))) (vm_hv h) r (vm_hv h1)) := by
  obtain ⟨hl, w1, w2, w3, w4, w5, w6⟩ := W
  have l6 := R.2.2.2.1
  have rd := (w5 (by omega)).2.1 h5
  have na : ∀ k, k < 4 → L.2.2.2.2 l k ≠ 288230376151711744 := w1.2.2.2.2 (Or.inl h5)
  have v1 := vm_v_va ok rd.1 (w2 1) (na 1 (by omega))
  have v2 := vm_v_va ok rd.2 (w2 2) (na 2 (by omega))
  have hb1 : ∀ i, vb b1 i = true → vb b i = true ∨ vz_v (L.2.2.2.2 l 0) i := by
    intro i hi
    rcases (w6 i).mp hi with q | ⟨k, hk, q⟩
    · exact Or.inl q
    · by_cases k0 : k = 0
      · rw [k0] at q; exact Or.inr q
      by_cases k1 : k = 1
      · rw [k1] at q; exact Or.inl (rd.1 i q)
      by_cases k2 : k = 2
      · rw [k2] at q; exact Or.inl (rd.2 i q)
      · rw [show k = 3 by omega, (w1.2.1 h5).1] at q
        exact absurd q vz_v0
  have bad : ∀ {g : ve_H}, g = h → ¬ (vm_v (vm_hv h) (L.2.2.2.2 l 1) < 72057594037927936 ∧ vm_v (vm_hv h) (L.2.2.2.2 l 2) < 72057594037927936 ∧ ¬ (vm_v (vm_hv h) (L.2.2.2.2 l 2) = 0 ∧ (L.2.2.1 l = 47 ∨ L.2.2.1 l = 37))) → vx_fr vm_W1 h g ∧ vm_sp b b1 (fun u => vm_is (L.2.2.1 l) (vm_v u (L.2.2.2.2 l 1)) (vm_v u (L.2.2.2.2 l 2)) (vm_v u (L.2.2.2.2 l 0))) (vm_hv h) 0 (vm_hv g) := by
    rintro g rfl q
    refine ⟨vx_fr_refl, vm_ag_refl, Or.inr ⟨rfl, fun u hu hC => q ?_⟩⟩
    rw [vm_v_ag hu rd.1, vm_v_ag hu rd.2]
    exact ⟨hC.1, hC.2.1, hC.2.2.1⟩
  refine vg_123 hT ⟨o, R.1, R.2.1, by omega, ?_⟩
  rw [vm_tm R hl (k := 1) (by omega) (by omega)]
  refine vx_CL_mono (vc_127 hT (vz_tk_l (w2 1))) ?_
  rintro r3 h3 _ ⟨rfl, e3⟩ _
  refine ⟨o, R.1, R.2.1, by omega, ?_⟩
  rw [vm_tm R hl (k := 2) (by omega) (by omega)]
  refine vx_CL_mono (vc_127 hT (vz_tk_l (w2 2))) ?_
  rintro r6 h6 _ ⟨rfl, e6⟩ _
  rw [← e3, ← e6] at bad
  rw [← e3] at v1
  rw [← e6] at v2
  refine vx_CI_mono (vc_129 hT (vz_va_l v1).1) ?_
  rintro r7 h7 _ ⟨rfl, c7⟩ _
  refine ⟨fun q => bad rfl (by omega), fun q => vx_CI_mono (vc_129 hT (vz_va_l v2).1) ?_⟩
  rintro r9 h9 _ ⟨rfl, c9⟩ _
  refine ⟨fun q9 => ⟨o, R.1, R.2.1, by omega, (vz_va_l v2).2.2 (by omega), ?_⟩, fun q9 => bad rfl (by omega)⟩
  have GO : ¬ (r6 = 0 ∧ (L.2.2.1 l = 47 ∨ L.2.2.1 l = 37)) → vx_CI (d + 1) 124 [.int (vx_i r3), .int (vx_i (vx_J h9 (vx_r o 9) x.toNat)), .int (vx_i r6)] h9 (fun r16 h16 => vx_T 1 625 h16 → vx_CI (d + 1) 125 [.ref 21, .long (vx_l (vx_K h9 (vx_r o 11) (x * 4).toNat)), .long (vx_l r16), .int (vx_i b)] h16 (fun r17 h17 => vx_T 1 625 h17 → (r17 = 0 ∨ r17 = 1) ∧ vx_fr vm_W1 h9 h17 ∧ vm_sp b b1 (fun u => vm_is (L.2.2.1 l) (vm_v u (L.2.2.2.2 l 1)) (vm_v u (L.2.2.2.2 l 2)) (vm_v u (L.2.2.2.2 l 0))) (vm_hv h9) r17 (vm_hv h17))) := by
    intro nz
    rw [(vm_kd R hl hx).2, vm_tm R hl (k := 0) (by omega) (by omega)]
    refine vx_CI_mono (vc_124 hT (w3 h5) ((vz_va_l v2).2.2 (by omega)) nz) ?_
    rintro r16 h16 _ ⟨rfl, e16⟩ _
    refine vx_CI_mono (vc_125 (b1 := b1) hT (vz_tk_l (w2 0)) (by rw [e16]; exact vz_va_i vm_rk_r) w4 ok hb1) ?_
    rintro r17 h17 _ ⟨f17, s1, s2⟩ _
    refine ⟨?_, f17, s1, ?_⟩
    · rcases s2 with ⟨q, _⟩ | ⟨q, _⟩
      · exact Or.inr q
      · exact Or.inl q
    rcases s2 with ⟨q1, q2, q3, q4⟩ | ⟨q1, q2⟩
    · refine Or.inl ⟨q1, ?_, q3, fun u hu hC => q4 u hu ?_⟩
      · show vm_is _ _ _ _
        rw [← vm_v_ag s1 rd.1, ← vm_v_ag s1 rd.2, ← e3, ← e6]
        exact ⟨by omega, by omega, nz, q2.trans e16⟩
      · show vm_v u _ = r16
        have h4 := hC.2.2.2
        rw [← vm_v_ag hu rd.1, ← vm_v_ag hu rd.2, ← e3, ← e6] at h4
        exact h4.trans e16.symm
    · refine Or.inr ⟨q1, fun u hu hC => q2 u hu ?_⟩
      show vm_v u _ = r16
      have h4 := hC.2.2.2
      rw [← vm_v_ag hu rd.1, ← vm_v_ag hu rd.2, ← e3, ← e6] at h4
      exact h4.trans e16.symm
  refine ⟨fun q10 => ⟨by omega, GO (fun t => q10 t.1)⟩, fun q10 => ?_⟩
  rw [(vm_kd R hl hx).2]
  refine ⟨fun q11 => bad rfl (fun t => t.2.2 ⟨q10, Or.inl q11⟩), fun q11 => ⟨fun q12 => ⟨by omega, ?_⟩, fun q12 => bad rfl (fun t => t.2.2 ⟨q10, Or.inr q12⟩)⟩⟩
  have := GO (fun t => by omega)
  rw [(vm_kd R hl hx).2] at this
  exact this
end
