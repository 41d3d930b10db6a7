/-! The reference's program at an empty tape -/
abbrev vq_tS (a k : Nat) : Prop := (a = 625 ∧ k = 5) ∨ a = 627 ∨ a = 628 ∨ a = 629 ∨ a = 630
theorem vq_27 {d : Nat} {h : ve_H} {x1 x2 x3 x4 t : Int} (hT : vx_T 625 672 h) (ht : vx_J h 625 5 = t) (hr : 0 ≤ t ∧ t < 602) (hx : vx_rI x1) : vx_CV d 27 [.ref 625, .int (vx_i x1), .int (vx_i x2), .int (vx_i x3), .long (vx_l x4)] h (fun h1 => vx_fr vq_tS h h1 ∧ vx_J h1 627 t.toNat = x1) := by
  refine vg_27 hT ?_
  rw [ht]
  refine ⟨hr, fun h2 e2 T2 => ?_⟩
  have t2 : vx_J h2 625 5 = t := by rw [e2, vx_J_ne (by omega), ht]
  rw [t2]
  refine ⟨hr, fun h4 e4 T4 => ?_⟩
  have t4 : vx_J h4 625 5 = t := by rw [e4, vx_J_ne (by omega), t2]
  rw [t4]
  refine ⟨hr, fun h6 e6 T6 => ?_⟩
  have t6 : vx_J h6 625 5 = t := by rw [e6, vx_J_ne (by omega), t4]
  rw [t6]
  refine ⟨hr, fun h8 e8 T8 h9 e9 T9 => ⟨?_, ?_⟩⟩
  · exact vx_fr_sJ (vx_fr_sK (vx_fr_sJ (vx_fr_sJ (vx_fr_sJ vx_fr_refl e2 (by omega)) e4 (by omega)) e6 (by omega)) e8 (by omega)) e9 (by omega)
  · rw [e9, vx_J_ne (by omega), e8, vx_J_sK, e6, vx_J_ne (by omega), e4, vx_J_ne (by omega), e2, vx_J_eq hx]
theorem vq_30 {d : Nat} {h : ve_H} (hT : vx_T 625 672 h) (h0 : vx_J h 625 2 = 0) : vx_CV (d + 1) 30 [.ref 625] h (fun h1 => vx_fr vq_tS h h1 ∧ vx_J h1 627 0 = 0) := by
  refine vg_30 hT (fun h1 e1 T1 => ?_)
  have t1 : vx_J h1 625 2 = 0 := by rw [e1, vx_J_ne (by omega), h0]
  have t5 : vx_J h1 625 5 = 0 := by rw [e1, vx_J_eq (by omega)]
  have f1 : vx_fr vq_tS h h1 := vx_fr_sJ vx_fr_refl e1 (by omega)
  refine vg_30_9 T1 ⟨by omega, fun q => absurd q (by omega), fun _ => ⟨by omega, fun _ => ?_, fun q => absurd q (by omega)⟩⟩
  exact vx_CV_mono (vq_27 T1 t5 (by omega) (by omega)) (fun h2 p _ => ⟨vx_fr_trans f1 p.1, p.2⟩)
abbrev vq_bS (a k : Nat) : Prop := (a = 625 ∧ (k = 2 ∨ k = 3 ∨ k = 4 ∨ k = 5 ∨ k = 10)) ∨ a = 627 ∨ a = 628 ∨ a = 629 ∨ a = 630
theorem vq_61 {d : Nat} {h : ve_H} (hT : vx_T 625 672 h) (h0 : vx_J h 625 2 = 0) : vx_CV (d + 2) 61 [.ref 625] h (fun h1 => vx_fr vq_bS h h1 ∧ vx_J h1 627 0 = 0 ∧ vx_J h1 625 3 = 0 ∧ vx_J h1 625 10 = 0) := by
  refine vg_61 hT (fun h1 e1 T1 h2 e2 T2 => ?_)
  have f2 : vx_fr vq_bS h h2 := vx_fr_sJ (vx_fr_sJ vx_fr_refl e1 (by omega)) e2 (by omega)
  refine vx_CV_mono (vq_30 T2 ((vx_fr_J (S := fun a k => a = 625 ∧ (k = 3 ∨ k = 4)) (vx_fr_sJ (vx_fr_sJ vx_fr_refl e1 (by omega)) e2 (by omega)) (by omega)).trans h0)) (fun h3 p T3 h4 e4 T4 h5 e5 T5 => ⟨?_, ?_, ?_, ?_⟩)
  · exact vx_fr_sJ (vx_fr_sJ (vx_fr_trans f2 (vx_fr_mono p.1 (by omega))) e4 (by omega)) e5 (by omega)
  · rw [e5, vx_J_ne (by omega), e4, vx_J_ne (by omega), p.2]
  · rw [e5, vx_J_ne (by omega), e4, vx_J_ne (by omega), vx_fr_J p.1 (by omega), e2, vx_J_ne (by omega), e1, vx_J_eq (by omega)]
  · rw [e5, vx_J_eq (by omega)]
abbrev vq_hS (a _k : Nat) : Prop := a = 663
theorem vq_57_131 {d : Nat} {h0 : ve_H} {m a : Int} (hm : 0 ≤ m ∧ m < 16) (ha : 0 ≤ a ∧ a < 16) {P : ve_H → Prop} (K : ∀ h v3, vx_T 625 672 h → vx_fr vq_hS h0 h → (∀ k : Nat, k < 256 → vx_J h 663 k = 0) → vx_W (d + 1) 57 123 [some (.ref 625), some (.int (vx_i m)), some (.int (vx_i (a + 1))), v3] [] h (vx_RV P)) :
    ∀ (n : Nat) (b : Int) (h : ve_H), 16 - b = n → 0 ≤ b → vx_T 625 672 h → vx_fr vq_hS h0 h → (∀ k : Nat, k < 256 → vx_J h 663 k = 0) → vx_W (d + 1) 57 131 [some (.ref 625), some (.int (vx_i m)), some (.int (vx_i a)), some (.int (vx_i b))] [] h (vx_RV P) := by
  intro n
  induction n with
  | zero =>
    intro b h hn hb hT hf hz
    exact vg_57_131 hT ⟨by omega, fun _ => K h _ hT hf hz, fun q => absurd q (by omega)⟩
  | succ n ih =>
    intro b h hn hb hT hf hz
    refine vg_57_131 hT ⟨by omega, fun q => absurd q (by omega), fun _ => ⟨by omega, by omega, fun _ => ⟨by omega, ?_⟩, fun q => absurd (hz _ (by omega)) q⟩⟩
    rw [hz (16 * a + b).toNat (by omega), show vx_or 0 0 = 0 from rfl]
    refine ⟨Or.inl rfl, fun h8 e8 T8 => ih (b + 1) h8 (by omega) (by omega) T8 (vx_fr_sJ hf e8 rfl) (fun k hk => ?_)⟩
    rw [e8, vx_J_sJ (by omega)]
    split
    · rfl
    · exact hz k hk
theorem vq_57_123 {d : Nat} {h0 : ve_H} {m : Int} (hm : 0 ≤ m ∧ m < 16) {P : ve_H → Prop} (K : ∀ h v2 v3, vx_T 625 672 h → vx_fr vq_hS h0 h → (∀ k : Nat, k < 256 → vx_J h 663 k = 0) → vx_W (d + 1) 57 115 [some (.ref 625), some (.int (vx_i (m + 1))), v2, v3] [] h (vx_RV P)) :
    ∀ (n : Nat) (a : Int) (h : ve_H) (v3 : Option Value), 16 - a = n → 0 ≤ a → vx_T 625 672 h → vx_fr vq_hS h0 h → (∀ k : Nat, k < 256 → vx_J h 663 k = 0) → vx_W (d + 1) 57 123 [some (.ref 625), some (.int (vx_i m)), some (.int (vx_i a)), v3] [] h (vx_RV P) := by
  intro n
  induction n with
  | zero =>
    intro a h v3 hn ha hT hf hz
    exact vg_57_123 hT ⟨by omega, fun _ => K h _ _ hT hf hz, fun q => absurd q (by omega)⟩
  | succ n ih =>
    intro a h v3 hn ha hT hf hz
    refine vg_57_123 hT ⟨by omega, fun q => absurd q (by omega), fun _ => ?_⟩
    exact vq_57_131 hm ⟨ha, by omega⟩ (fun h v3 T f z => ih (a + 1) h v3 (by omega) (by omega) T f z) 16 0 h (by omega) (by omega) hT hf hz
theorem vq_57_115 {d : Nat} {h0 : ve_H} : ∀ (n : Nat) (m : Int) (h : ve_H) (v2 v3 : Option Value), 16 - m = n → 0 ≤ m → vx_T 625 672 h → vx_fr vq_hS h0 h → (∀ k : Nat, k < 256 → vx_J h 663 k = 0) → vx_W (d + 1) 57 115 [some (.ref 625), some (.int (vx_i m)), v2, v3] [] h (vx_RV (fun h1 => vx_fr vq_hS h0 h1)) := by
  intro n
  induction n with
  | zero =>
    intro m h v2 v3 hn hm hT hf hz
    exact vg_57_115 hT ⟨by omega, fun _ => hf, fun q => absurd q (by omega)⟩
  | succ n ih =>
    intro m h v2 v3 hn hm hT hf hz
    refine vg_57_115 hT ⟨by omega, fun q => absurd q (by omega), fun _ => ?_⟩
    exact vq_57_123 ⟨hm, by omega⟩ (fun h v2 v3 T f z => ih (m + 1) h v2 v3 (by omega) (by omega) T f z) 16 0 h v3 (by omega) (by omega) hT hf hz
theorem vq_57_2 {d : Nat} {h0 : ve_H} (s : vx_J h0 625 48 = 1) (r : vx_J h0 635 1 = 0) : ∀ (n : Nat) (i : Int) (h : ve_H), 256 - i = n → 0 ≤ i → vx_T 625 672 h → vx_fr vq_hS h0 h → (∀ k : Nat, (k : Int) < i → vx_J h 663 k = 0) → vx_W (d + 1) 57 2 [some (.ref 625), some (.int (vx_i i)), none, none] [] h (vx_RV (fun h1 => vx_fr vq_hS h0 h1)) := by
  intro n
  induction n with
  | zero =>
    intro i h hn hi hT hf hz
    refine vg_57_2 hT ⟨by omega, fun _ => ?_, fun q => absurd q (by omega)⟩
    have s1 : vx_J h 625 48 = 1 := (vx_fr_J hf (by omega)).trans s
    have r1 : vx_J h 635 1 = 0 := (vx_fr_J hf (by omega)).trans r
    refine vg_57_30 hT ?_
    rw [s1, show (1 : Int).toNat = 1 from rfl, r1]
    exact ⟨by omega, by omega, by omega, fun _ => vq_57_115 16 0 h _ _ (by omega) (by omega) hT hf (fun k hk => hz k (by omega)), fun q => absurd q (by omega)⟩
  | succ n ih =>
    intro i h hn hi hT hf hz
    refine vg_57_2 hT ⟨by omega, fun q => absurd q (by omega), fun _ => ⟨by omega, fun h4 e4 T4 => ?_⟩⟩
    refine ih (i + 1) h4 (by omega) (by omega) T4 (vx_fr_sJ hf e4 rfl) (fun k hk => ?_)
    rw [e4, vx_J_sJ (by omega)]
    split
    · rfl
    · exact hz k (by omega)
theorem vq_59 {d : Nat} {h : ve_H} (hT : vx_T 625 672 h) (s : vx_J h 625 48 = 1) (r : vx_J h 635 1 = 0) : vx_CV (d + 2) 59 [.ref 625] h (fun h1 => vx_fr vq_hS h h1) := by
  refine vg_59 hT (vx_CV_mono (vg_57 hT (vq_57_2 s r 256 0 h (by omega) (by omega) hT vx_fr_refl (fun k hk => by omega))) (fun h1 f T1 => vg_59_12 T1 ?_))
  have s1 : vx_J h1 625 48 = 1 := (vx_fr_J f (by omega)).trans s
  have r1 : vx_J h1 635 1 = 0 := (vx_fr_J f (by omega)).trans r
  rw [s1, show (1 : Int).toNat = 1 from rfl, r1]
  exact ⟨by omega, by omega, by omega, fun _ => f, fun q => absurd q (by omega)⟩
abbrev vq_sS (a _k : Nat) : Prop := a = 634
theorem vq_60_10 {d : Nat} {h0 : ve_H} (s : vx_J h0 625 48 = 1) (r : vx_J h0 635 1 = 0) : ∀ (n : Nat) (i : Int) (h : ve_H), 32 - i = n → 16 ≤ i → vx_T 625 672 h → vx_fr vq_sS h0 h → vx_W (d + 1) 60 10 [some (.ref 625), some (.int (vx_i 16)), some (.int (vx_i i)), none, none, none] [] h (vx_RV (fun h1 => vx_fr vq_sS h0 h1)) := by
  intro n
  induction n with
  | zero =>
    intro i h hn hi hT hf
    refine vg_60_10 hT ⟨by omega, by omega, fun _ => ?_, fun q => absurd q (by omega)⟩
    have s1 : vx_J h 625 48 = 1 := (vx_fr_J hf (by omega)).trans s
    have r1 : vx_J h 635 1 = 0 := (vx_fr_J hf (by omega)).trans r
    refine vg_60_33 hT ⟨by omega, fun q => absurd q (by omega), fun _ => vg_60_47 hT ?_⟩
    rw [s1, show (1 : Int).toNat = 1 from rfl, r1]
    exact ⟨by omega, by omega, by omega, fun _ => vg_60_33 hT ⟨by omega, fun _ => hf, fun q => absurd rfl q⟩, fun q => absurd q (by omega)⟩
  | succ n ih =>
    intro i h hn hi hT hf
    refine vg_60_10 hT ⟨by omega, by omega, fun q => absurd q (by omega), fun _ => ⟨by omega, fun h5 e5 T5 => ?_⟩⟩
    exact ih (i + 1) h5 (by omega) (by omega) T5 (vx_fr_sJ hf e5 rfl)
theorem vq_60 {d : Nat} {h : ve_H} (hT : vx_T 625 672 h) (s : vx_J h 625 48 = 1) (r : vx_J h 635 1 = 0) : vx_CV (d + 1) 60 [.ref 625] h (fun h1 => vx_fr vq_sS h h1) := by
  refine vg_60 hT ?_
  rw [s]
  exact vq_60_10 s r 16 16 h (by omega) (by omega) hT vx_fr_refl
abbrev vq_R (a _k : Nat) : Prop := 625 ≤ a ∧ a < 672
theorem vq_62 {d : Nat} {h : ve_H} (hT : vx_T 625 672 h) (h0 : vx_J h 625 2 = 0) (h11 : vx_J h 625 11 = 0) : vx_CI (d + 3) 62 [.ref 625] h (fun b h1 => b = 0 ∧ vx_J h1 625 0 = 0 ∧ vx_fr vq_R h h1) := by
  refine vg_62 hT (vx_CV_mono (vq_61 hT h0) ?_)
  rintro h1 ⟨f1, k1, j3, j10⟩ T1 h2 e2 T2 h3 e3 T3
  have s1 : vx_J h1 625 11 = 0 := (vx_fr_J f1 (by omega)).trans h11
  rw [s1] at e2
  have g3 : vx_fr (fun a k => (a = 625 ∧ (k = 48 ∨ k = 49)) ∨ a = 631 ∨ a = 635 ∨ a = 647) h1 h3 := vx_fr_sJ (vx_fr_sJ vx_fr_refl e2 (by omega)) e3 (by omega)
  have s3 : vx_J h3 625 48 = 1 := by rw [e3, vx_J_ne (by omega), e2, vx_J_eq (by omega)]; rfl
  rw [s3, show (1 : Int).toNat = 1 from rfl]
  refine ⟨by omega, fun h5 e5 T5 => ?_⟩
  have g5 := vx_fr_sJ g3 e5 (by omega)
  have s5 : vx_J h5 625 48 = 1 := by rw [e5, vx_J_ne (by omega), s3]
  rw [s5, show (1 : Int).toNat = 1 from rfl]
  refine ⟨by omega, fun h7 e7 T7 => ?_⟩
  have g7 := vx_fr_sJ g5 e7 (by omega)
  have s7 : vx_J h7 625 48 = 1 := by rw [e7, vx_J_ne (by omega), s5]
  have r7 : vx_J h7 635 1 = 0 := by rw [e7, vx_J_eq (by omega)]
  rw [s7, show (1 : Int).toNat = 1 from rfl]
  refine ⟨by omega, fun h9 e9 T9 => ?_⟩
  have g9 := vx_fr_sJ g7 e9 (by omega)
  have s9 : vx_J h9 625 48 = 1 := by rw [e9, vx_J_ne (by omega), s7]
  have r9 : vx_J h9 635 1 = 0 := by rw [e9, vx_J_ne (by omega), r7]
  have a9 : vx_J h9 625 10 = 0 := (vx_fr_J g9 (by omega)).trans j10
  have b9 : vx_J h9 625 3 = 0 := (vx_fr_J g9 (by omega)).trans j3
  have c9 : vx_J h9 627 0 = 0 := (vx_fr_J g9 (by omega)).trans k1
  have F9 : vx_fr vq_R h h9 := vx_fr_trans (vx_fr_mono f1 (by omega)) (vx_fr_mono g9 (by omega))
  refine vg_62_51 T9 ⟨by omega, fun q => absurd q (by omega), fun _ => ?_⟩
  rw [a9, show (0 : Int).toNat = 0 from rfl]
  refine ⟨by omega, fun _ => ⟨fun q => absurd b9 q, fun _ => ?_⟩, fun q => absurd c9 q⟩
  refine vx_CV_mono (vq_59 T9 s9 r9) (fun h18 f18 T18 => ⟨fun _ => ?_, fun q => absurd ((vx_fr_J f18 (by omega)).trans b9) q⟩)
  have s18 : vx_J h18 625 48 = 1 := (vx_fr_J f18 (by omega)).trans s9
  have r18 : vx_J h18 635 1 = 0 := (vx_fr_J f18 (by omega)).trans r9
  refine vx_CV_mono (vq_60 T18 s18 r18) (fun h20 f20 T20 h21 e21 T21 h22 e22 T22 h23 e23 T23 h24 e24 T24 => ?_)
  have s21 : vx_J h21 625 48 = 1 := by rw [e21, vx_J_ne (by omega), vx_fr_J f20 (by omega), s18]
  rw [s21] at e22
  rw [s21, show (1 : Int).toNat = 1 from rfl]
  refine ⟨by omega, ?_, ?_, ?_⟩
  · rw [e24, vx_J_ne (by omega), e23, vx_J_ne (by omega), e22, vx_J_ne (by omega), e21, vx_J_ne (by omega), vx_fr_J f20 (by omega), r18]
  · rw [e24, vx_J_ne (by omega), e23, vx_J_ne (by omega), e22, vx_J_ne (by omega), e21, vx_J_eq (by omega)]
  · exact vx_fr_sJ (vx_fr_sJ (vx_fr_sJ (vx_fr_sJ (vx_fr_trans F9 (vx_fr_trans (vx_fr_mono f18 (by omega)) (vx_fr_mono f20 (by omega)))) e21 (by omega)) e22 (by omega)) e23 (by omega)) e24 (by omega)
