/-! The engine's small methods: the model's rows: the class -/
/-- the rows of one predicate, the latest first -/
def vm_cl (rr : Nat → Nat → Int) (p : Int) : Nat → List Nat
  | 0 => []
  | n + 1 => if rr n 0 = p then n :: vm_cl rr p n else vm_cl rr p n
def vm_ch (h : ve_H) : List Nat → Int → Prop
  | [], x => x = -1
  | i :: l, x => x = i ∧ vm_ch h l (vx_J h 28 i)
/-- the model: rows, when they came, their links -/
def vm_M (h : ve_H) (cnt : Nat) (rr : Nat → Nat → Int) (cm : Nat → Int) : Prop := vr_P 23 5 cnt rr h ∧ (∀ i, i < cnt → vx_J h 27 i = cm i) ∧ ∀ p : Nat, p < 16 → vm_ch h (vm_cl rr p cnt) (vx_J h 29 p) ∧ vx_J h 30 p = ((vm_cl rr p cnt).length : Nat)
theorem vm_K23 : vr_K 23 5 ∧ vx_r 23 1 = 26 ∧ vx_r 23 2 = 24 ∧ vx_r 23 3 = 25 := by
  refine ⟨⟨by decide +kernel, Or.inl rfl, by decide +kernel⟩, by decide +kernel, by decide +kernel, by decide +kernel⟩
theorem vm_K34 : vr_K 34 5 ∧ vx_r 34 1 = 37 ∧ vx_r 34 2 = 35 ∧ vx_r 34 3 = 36 := by
  refine ⟨⟨by decide +kernel, Or.inl rfl, by decide +kernel⟩, by decide +kernel, by decide +kernel, by decide +kernel⟩
theorem vm_o21 : vx_o 1 625 21 32 ∧ vx_o 1 625 21 33 ∧ vx_za 32 = 8 ∧ vx_za 33 = 5 := by
  refine ⟨by decide +kernel, by decide +kernel, by decide +kernel, by decide +kernel⟩
section
variable {rr : Nat → Nat → Int} {p : Int} {h h1 : ve_H}
theorem vm_cl_mem : ∀ {n i : Nat}, i ∈ vm_cl rr p n ↔ (i < n ∧ rr i 0 = p)
  | 0, i => ⟨fun q => absurd q (List.not_mem_nil), fun q => absurd q.1 (by omega)⟩
  | n + 1, i => by
    show i ∈ (if rr n 0 = p then n :: vm_cl rr p n else vm_cl rr p n) ↔ _
    by_cases q : rr n 0 = p
    · rw [if_pos q, List.mem_cons, vm_cl_mem]
      constructor
      · rintro (e | ⟨a, b⟩)
        · rw [e]; exact ⟨by omega, q⟩
        · exact ⟨by omega, b⟩
      · rintro ⟨a, b⟩
        by_cases e : i = n
        · exact Or.inl e
        · exact Or.inr ⟨by omega, b⟩
    · rw [if_neg q, vm_cl_mem]
      constructor
      · rintro ⟨a, b⟩; exact ⟨by omega, b⟩
      · rintro ⟨a, b⟩
        by_cases e : i = n
        · rw [e] at b; exact absurd b q
        · exact ⟨by omega, b⟩
theorem vm_cl_pw : ∀ (n : Nat), (vm_cl rr p n).Pairwise (fun a b => a ≠ b)
  | 0 => List.Pairwise.nil
  | n + 1 => by
    show (if rr n 0 = p then n :: vm_cl rr p n else vm_cl rr p n).Pairwise _
    by_cases q : rr n 0 = p
    · rw [if_pos q]
      refine List.Pairwise.cons (fun a ha => ?_) (vm_cl_pw n)
      have := (vm_cl_mem.mp ha).1
      omega
    · rw [if_neg q]; exact vm_cl_pw n
theorem vm_cl_len : ∀ (n : Nat), (vm_cl rr p n).length ≤ n
  | 0 => Nat.le_refl _
  | n + 1 => by
    show (if rr n 0 = p then n :: vm_cl rr p n else vm_cl rr p n).length ≤ _
    have := vm_cl_len n
    by_cases q : rr n 0 = p
    · rw [if_pos q, List.length_cons]; omega
    · rw [if_neg q]; omega
theorem vm_cl_congr {rr2 : Nat → Nat → Int} : ∀ (n : Nat), (∀ i, i < n → rr i 0 = rr2 i 0) → vm_cl rr p n = vm_cl rr2 p n
  | 0, _ => rfl
  | n + 1, e => by
    show (if rr n 0 = p then n :: vm_cl rr p n else vm_cl rr p n) = (if rr2 n 0 = p then n :: vm_cl rr2 p n else vm_cl rr2 p n)
    rw [e n (by omega), vm_cl_congr n (fun i hi => e i (by omega))]
theorem vm_ch_fr : ∀ {l : List Nat} {x : Int}, vm_ch h l x → (∀ i, i ∈ l → vx_J h1 28 i = vx_J h 28 i) → vm_ch h1 l x
  | [], _, q, _ => q
  | i :: l, x, q, e => ⟨q.1, by rw [e i List.mem_cons_self]; exact vm_ch_fr q.2 (fun j hj => e j (List.mem_cons_of_mem _ hj))⟩
theorem vm_M_fr {cnt : Nat} {cm : Nat → Int} {S : Nat → Nat → Prop} (M : vm_M h cnt rr cm) (f : vx_fr S h h1) (hs : ∀ a k, S a k → a < 23 ∨ 30 < a) : vm_M h1 cnt rr cm := by
  obtain ⟨m1, m2, m3⟩ := M
  have e : ∀ a k, 23 ≤ a → a ≤ 30 → vx_J h1 a k = vx_J h a k := fun a k q1 q2 => vx_fr_J f (fun q => absurd (hs a k q) (by omega))
  refine ⟨vr_P_fr m1 vm_K23.1 f (fun b k q t => ?_), fun i hi => (e 27 i (by omega) (by omega)).trans (m2 i hi), fun p hp => ?_⟩
  · have := hs b k t
    have := vm_K23.2
    omega
  · rw [e 29 p (by omega) (by omega), e 30 p (by omega) (by omega)]
    exact ⟨vm_ch_fr (m3 p hp).1 (fun i _ => e 28 i (by omega) (by omega)), (m3 p hp).2⟩
end
section
variable {d o l cnt : Nat} {h h1 : ve_H} {L : vy_L} {x y b b1 t : Int} {rr : Nat → Nat → Int} {cm : Nat → Int}
abbrev vm_W3 (a _k : Nat) : Prop := a = 31 ∨ a = 33
theorem vm_W3_W {a k : Nat} (q : vm_W3 a k) : vm_W a k := by omega
theorem vc_122_18 (R : vm_rl h o L) (hl : l < L.1) (hx : x = l) (P : vr_P 23 5 cnt rr h) (ht : ∀ k, vz_tk (L.2.2.2.2 l k)) :
    ∀ (m k : Nat) (g : ve_H) (z : Int), m = 4 - k → k ≤ 4 → z = k → vx_T 1 625 g → vx_fr (fun a _ => a = 33) h g → (∀ j, j < k + 1 → vx_K g 33 j = vu_row (L.2.2.1 l) (fun k => vm_v (vm_hv h) (L.2.2.2.2 l k)) j) →
    vx_W (d + 2) 122 18 [some (.ref 21), some (.int (vx_i x)), some (.int (vx_i z))] [] g (vx_RI (fun r h1 => vx_fr (fun a _ => a = 33) h h1 ∧ vr_fd 5 cnt rr (vu_row (L.2.2.1 l) (fun k => vm_v (vm_hv h) (L.2.2.2.2 l k))) r)) := by
  have l6 := R.2.2.2.1
  intro m
  induction m with
  | zero =>
    intro k g z hm hk hz hT F hs
    refine vg_122_18 hT ⟨by omega, fun _ => vx_CI_mono (vc_173 (d := d) vm_o21.2.1 hT vm_K23.1 (vr_P_fr P vm_K23.1 F (fun b k q t => by have := vm_K23.2; omega)) (by rw [vm_o21.2.2.2]; exact Nat.le_refl _) (fun k hk => hs k (by omega))) ?_, fun q => absurd q (by omega)⟩
    rintro r3 h3 _ ⟨rfl, q⟩ _
    exact ⟨F, q⟩
  | succ m ih =>
    intro k g z hm hk hz hT F hs
    have Rg := vm_rl_fr R F (fun a k q => by omega)
    refine vg_122_18 hT ⟨by omega, fun q => absurd q (by omega), fun _ => ⟨o, Rg.1, Rg.2.1, by omega, ?_⟩⟩
    rw [vm_tm Rg hl (k := k) (by omega) (by omega)]
    refine vx_CL_mono (vc_127 hT (vz_tk_l (ht k))) ?_
    rintro r6 h6 hr6 ⟨rfl, e6⟩ _
    refine ⟨by omega, ?_⟩
    rintro h8 e8 hT8
    rw [show (z + 1).toNat = k + 1 by omega] at e8
    have hv : vm_hv h6 = vm_hv h := vm_hv_fr F (fun k => by omega)
    refine ih (k + 1) h8 (z + 1) (by omega) (by omega) (by omega) hT8 (vx_fr_sK F e8 rfl) (fun j hj => ?_)
    rw [e8]
    by_cases q : j = k + 1
    · rw [q, vx_K_eq hr6, e6, hv]; rfl
    · rw [vx_K_ne (by omega)]; exact hs j (by omega)
theorem vc_122 (hT : vx_T 1 625 h) (R : vm_rl h o L) (hl : l < L.1) (hx : x = l) (P : vr_P 23 5 cnt rr h) (ht : ∀ k, vz_tk (L.2.2.2.2 l k)) : vx_CI (d + 2) 122 [.ref 21, .int (vx_i x)] h (fun r h1 => vx_fr (fun a _ => a = 33) h h1 ∧ vr_fd 5 cnt rr (vu_row (L.2.2.1 l) (fun k => vm_v (vm_hv h) (L.2.2.2.2 l k))) r) := by
  have l6 := R.2.2.2.1
  refine vg_122 hT ⟨o, R.1, R.2.1, by omega, ?_⟩
  rintro h3 e3 hT3
  rw [(vm_kd R hl hx).2] at e3
  have F : vx_fr (fun a _ => a = 33) h h3 := vx_fr_sK vx_fr_refl e3 rfl
  refine vc_122_18 R hl hx P ht 4 0 h3 0 rfl (by omega) rfl hT3 F (fun j hj => ?_)
  have : j = 0 := by omega
  subst this
  rw [e3, vx_K_eq]
  · rfl
  · have := vx_rI_J h (vx_r o 9) x.toNat
    rw [(vm_kd R hl hx).2] at this
    omega
/-- a row as an atom without _ asks -/
theorem vm_at_row {u A f : Nat → Int} {e : Int} (na : ∀ k, k < 4 → A k ≠ 288230376151711744) : vr_eq 5 f (vu_row e (fun k => vm_v u (A k))) ↔ (f 0 = e ∧ vm_at u A f) := by
  constructor
  · intro q
    refine ⟨q 0 (by omega), fun k hk => Or.inr ?_⟩
    exact (q (k + 1) (by omega)).symm
  · rintro ⟨q1, q2⟩ k hk
    cases k with
    | zero => exact q1
    | succ k =>
      rcases q2 k (by omega) with t | t
      · exact absurd t (na k (by omega))
      · exact t.symm
/-- whether there is such a row -/
theorem vc_121_59 {O1 : Int} {n e : Nat} {q : Nat} (R : vm_rl h o L) (hx : x = l) (W : vm_lw O1 n L l b b) (ok : vm_ok b (vm_hv h)) (M : vm_M h cnt rr cm) (hv : ∀ i, i < cnt → ∀ k, k < 4 → vz_va (rr i (k + 1))) (hy : y = e) (he : e < 6) (hb : vx_J h (vx_r o 13) e = b) {v3 : Int} :
    ∀ (ch : List Nat) (g : ve_H) (z z2 : Int), (∀ i, i ∈ ch → i < cnt ∧ rr i 0 = L.2.2.1 l) → vm_ch g ch z → z2 = (ch.length : Nat) → ch.length ≤ 201 → vx_T 1 625 g → vx_fr vm_W1 h g → vm_ag b (vm_hv h) (vm_hv g) →
    vx_W (d + 2) 121 59 [some (.ref 21), some (.int (vx_i x)), some (.int (vx_i y)), some (.int (vx_i v3)), some (.int (vx_i z)), some (.int (vx_i z2))] [] g (vx_RI (fun r h1 => vx_fr vm_W1 h h1 ∧ vm_ag b (vm_hv h) (vm_hv h1) ∧ ((r = 1 ∧ ∃ i, i < cnt ∧ rr i 0 = L.2.2.1 l ∧ vm_at (vm_hv h) (L.2.2.2.2 l) (rr i)) ∨ (r = 0 ∧ ∀ i, i ∈ ch → ¬ vm_at (vm_hv h) (L.2.2.2.2 l) (rr i))))) := by
  obtain ⟨hl, w1, w2, w3, w4, w5, w6⟩ := W
  have al : ∀ k, k < 4 → ∀ i, vz_v (L.2.2.2.2 l k) i → vb b i = true := fun k hk i hi => (w6 i).mpr (Or.inr ⟨k, hk, hi⟩)
  intro ch
  induction ch with
  | nil =>
    intro g z z2 _ c1 c2 _ hT F ag
    exact vg_121_59 hT ⟨by rw [c2]; decide, fun _ => ⟨F, ag, Or.inr ⟨rfl, fun i hi => absurd hi List.not_mem_nil⟩⟩, fun q => absurd q (by rw [c2]; decide)⟩
  | cons i ch ih =>
    intro g z z2 cm1 c1 c2 c3 hT F ag
    have c2' : z2 = (ch.length : Int) + 1 := by rw [c2, List.length_cons]; omega
    rw [List.length_cons] at c3
    have ci := cm1 i List.mem_cons_self
    have hz : z = i := c1.1
    have Rg := vm_rl_fr R F (fun a k q => vm_W1_W q)
    have cnt1 : cnt ≤ 201 := M.1.2.2.1
    have tt := vm_o R.2.1
    have eb : vx_J g (vx_r o 13) y.toNat = b := by
      rw [show y.toNat = e by omega, vx_fr_J F (by omega)]; exact hb
    refine vg_121_59 hT ⟨by omega, fun q => absurd q (by omega), fun _ => ⟨by omega, fun q => absurd q (by omega), fun _ => ⟨o, Rg.1, Rg.2.1, by omega, ?_⟩⟩⟩
    rw [eb]
    refine vx_CI_mono (vc_119 (d := d) (f := rr i) (i := i) (b1 := b) hT Rg hl hx hz (by omega) (fun k hk => ?_) (hv i ci.1) w2 w4 (vm_ok_ag ok ag) (fun j => ⟨fun q => Or.inl q, fun q => (w6 j).mpr q⟩)) ?_
    · rw [vx_fr_K F (show ¬ vm_W1 26 _ by omega)]
      have := M.1.2.2.2.1 i (k + 1) ci.1 (by omega)
      rw [vm_K23.2.1] at this
      rw [← this]
      congr 1
      omega
    rintro r7 h7 _ ⟨F7, s1, s2⟩ hT7
    have F7' := vx_fr_trans F F7
    refine ⟨fun q => ⟨by omega, ?_⟩, fun q => ?_⟩
    · have nh : ¬ vm_at (vm_hv h) (L.2.2.2.2 l) (rr i) := by
        rcases s2 with ⟨t, _⟩ | ⟨_, t⟩
        · omega
        · exact fun a => t (vm_hv h) (vm_ag_symm ag) a
      have ec : vx_J h7 28 z.toNat = vx_J g 28 i := by rw [show z.toNat = i by omega]; exact vx_fr_J F7 (by omega)
      refine vx_mono (ih h7 _ (z2 + (-1)) (fun j hj => cm1 j (List.mem_cons_of_mem _ hj)) (by rw [ec]; exact vm_ch_fr c1.2 (fun j _ => vx_fr_J F7 (by omega))) (by omega) (by omega) hT7 F7' (vm_ag_trans ag s1)) ?_
      rintro ot h1 ⟨r, e1, e2, f1, f2, f3⟩
      refine ⟨r, e1, e2, f1, f2, ?_⟩
      rcases f3 with f3 | ⟨f3, f4⟩
      · exact Or.inl f3
      · refine Or.inr ⟨f3, fun j hj => ?_⟩
        rcases List.mem_cons.mp hj with t | t
        · rw [t]; exact nh
        · exact f4 j t
    · refine ⟨F7', vm_ag_trans ag s1, Or.inl ⟨rfl, i, ci.1, ci.2, ?_⟩⟩
      rcases s2 with ⟨_, t, _⟩ | ⟨t, _⟩
      · exact vm_at_ag (vm_ag_symm (vm_ag_trans ag s1)) al t
      · exact absurd t q
theorem vc_121 {O1 : Int} {n e p : Nat} (hT : vx_T 1 625 h) (R : vm_rl h o L) (hx : x = l) (W : vm_lw O1 n L l b b) (ok : vm_ok b (vm_hv h)) (M : vm_M h cnt rr cm) (hv : ∀ i, i < cnt → ∀ k, k < 4 → vz_va (rr i (k + 1))) (hy : y = e) (he : e < 6) (hb : vx_J h (vx_r o 13) e = b) (hp : L.2.2.1 l = p) (hp16 : p < 16) (hk : (vx_J h (vx_r o 14) e = 1 ∧ vz_kn L l b) ∨ (vx_J h (vx_r o 14) e = 0 ∧ ¬ vz_kn L l b)) : vx_CI (d + 3) 121 [.ref 21, .int (vx_i x), .int (vx_i y)] h (fun r h1 => vx_fr vm_W3 h h1 ∧ vm_ag b (vm_hv h) (vm_hv h1) ∧ ((r = 1 ∧ ∃ i, i < cnt ∧ rr i 0 = L.2.2.1 l ∧ vm_at (vm_hv h) (L.2.2.2.2 l) (rr i)) ∨ (r = 0 ∧ ∀ i, i < cnt → rr i 0 = L.2.2.1 l → ¬ vm_at (vm_hv h) (L.2.2.2.2 l) (rr i)))) := by
  have W0 := W
  obtain ⟨hl, w1, w2, w3, w4, w5, w6⟩ := W
  have l6 := R.2.2.2.1
  have cnt1 : cnt ≤ 201 := M.1.2.2.1
  refine vg_121 hT ⟨o, R.1, R.2.1, by omega, ?_⟩
  rw [show y.toNat = e by omega, (vm_kd R hl hx).2, hp]
  refine ⟨fun q => ⟨by omega, by omega, by omega, ?_⟩, fun q => vx_CI_mono (vc_122 (d := d) hT R hl hx M.1 w2) ?_⟩
  · rw [show (p : Int).toNat = p by omega]
    have Mp := M.2.2 p hp16
    refine vx_mono (vc_121_59 (d := d + 1) (q := p) R hx W0 ok M hv hy he hb (vm_cl rr p cnt) h _ _ (fun i hi => by rw [hp]; exact vm_cl_mem.mp hi) Mp.1 Mp.2 (Nat.le_trans (vm_cl_len cnt) cnt1) hT vx_fr_refl vm_ag_refl) ?_
    rintro ot h1 ⟨r, e1, e2, f1, f2, f3⟩
    refine ⟨r, e1, e2, vx_fr_mono f1 (fun a k q => Or.inl q), f2, ?_⟩
    rcases f3 with f3 | ⟨f3, f4⟩
    · exact Or.inl (by rw [hp] at f3; exact f3)
    · exact Or.inr ⟨f3, fun i hi hi2 => f4 i (vm_cl_mem.mpr ⟨hi, hi2⟩)⟩
  · have kn : vz_kn L l b := by
      rcases hk with ⟨_, t⟩ | ⟨t, _⟩
      · exact t
      · exact absurd t q
    rintro r7 h7 _ ⟨F7, c7⟩ _
    have hv7 : vm_hv h7 = vm_hv h := vm_hv_fr F7 (fun k => by omega)
    have F7' := vx_fr_mono F7 (S2 := vm_W3) (fun a k q => Or.inr q)
    refine ⟨fun q7 => ⟨F7', by rw [hv7]; exact vm_ag_refl, Or.inr ⟨rfl, fun i hi hi2 hi3 => ?_⟩⟩, fun q7 => ⟨F7', by rw [hv7]; exact vm_ag_refl, Or.inl ⟨rfl, ?_⟩⟩⟩
    · rcases c7 with ⟨j, _, c1, _⟩ | ⟨_, c1⟩
      · omega
      · exact c1 i hi ((vm_at_row kn.1).mpr ⟨hi2.trans hp.symm, hi3⟩)
    · rcases c7 with ⟨j, c0, c1, c2⟩ | ⟨c1, _⟩
      · have := (vm_at_row kn.1).mp c2
        exact ⟨j, c0, this.1.trans hp, this.2⟩
      · exact absurd c1 q7
/-- whether a row may be used at a step -/
def vm_it (fr tn : Int) (own : Prop) (e : Nat) (c : Int) : Prop := own → ((e : Int) = fr → c = tn - 1) ∧ ((e : Int) < fr → c < tn - 1) ∧ (fr < (e : Int) → c < tn)
theorem vc_118 {pi i e p : Nat} {sN fr tn c : Int} {st : Nat → Nat} {σ : Nat → Nat} (hT : vx_T 1 625 h) (hpi : ve_R h 21 6 = some pi) (opi : vx_o 1 625 5 pi) (R : vm_rl h o L) (hx : x = i) (hi : i < 201) (hy : y = e) (he : e < 6) (hs : σ e < L.1) (h12 : vx_J h (vx_r o 12) e = σ e) (hp : L.2.2.1 (σ e) = p) (hp16 : p < 16) (S : vs_cs h pi st) (h9 : vx_J h 21 9 = sN) (h10 : vx_J h 21 10 = tn) (h11 : vx_J h 21 11 = fr) (htn : (st p : Int) = sN → 0 ≤ tn ∧ tn < 1000) (hc : vx_J h 27 i = c) : vx_CI d 118 [.ref 21, .int (vx_i x), .int (vx_i y)] h (fun r h1 => h1 = h ∧ ((r = 1 ∧ vm_it fr tn ((st p : Int) = sN) e c) ∨ (r = 0 ∧ ¬ vm_it fr tn ((st p : Int) = sN) e c))) := by
  have l6 := R.2.2.2.1
  have e9 : vx_J h (vx_r o 9) (σ e) = p := by rw [← hp]; exact (R.2.2.2.2 (σ e) hs).2.1
  refine vg_118 hT ⟨pi, hpi, opi, o, R.1, R.2.1, by omega, ?_⟩
  rw [show y.toNat = e by omega, h12, show ((σ e : Nat) : Int).toNat = σ e by omega, e9, show ((p : Nat) : Int).toNat = p by omega, (vx_po opi).2.2.1, S p hp16, h9, h10, h11, show x.toNat = i by omega, hc]
  unfold vm_it
  refine ⟨by omega, by omega, fun q => ⟨by omega, by omega, fun q2 => ⟨fun q3 => ⟨fun q4 => ⟨rfl, Or.inr ⟨rfl, fun t => ?_⟩⟩, fun q4 => ⟨rfl, Or.inl ⟨rfl, fun _ => ⟨by omega, by omega, by omega⟩⟩⟩⟩, fun q3 => ⟨by omega, fun q4 => ⟨rfl, Or.inr ⟨rfl, fun t => ?_⟩⟩, fun q4 => ⟨rfl, Or.inl ⟨rfl, fun _ => ⟨by omega, by omega, by omega⟩⟩⟩⟩⟩, fun q2 => ⟨by omega, fun q4 => ⟨rfl, Or.inr ⟨rfl, fun t => ?_⟩⟩, fun q4 => ⟨rfl, Or.inl ⟨rfl, fun _ => ⟨by omega, by omega, by omega⟩⟩⟩⟩⟩, fun q => ⟨rfl, Or.inl ⟨rfl, fun t => absurd t q⟩⟩⟩
  · have := (t q).2.2 (by omega); omega
  · have := (t q).2.1 (by omega); omega
  · have := (t q).1 (by omega); omega
end
