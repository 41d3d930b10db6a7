/-! The order in which a rule's literals are worked: the class -/
abbrev vz_Sp (o a k : Nat) : Prop := a = vx_r o 12 ∨ a = vx_r o 13 ∨ a = vx_r o 14 ∨ (a = o ∧ k = 15)
def vz_kn (L : vy_L) (l : Nat) (b : Int) : Prop := (∀ k, k < 4 → L.2.2.2.2 l k ≠ 288230376151711744) ∧ ∀ i, vz_lv L l i → vb b i = true
def vz_st (g : ve_H) (o : Nat) (L : vy_L) (n : Nat) (σ : Nat → Nat) (b : Nat → Int) : Prop :=
  (∀ e, e < n → σ e < L.1 ∧ vx_J g (vx_r o 12) e = σ e ∧ vx_J g (vx_r o 13) e = b e ∧ (L.2.1 (σ e) ≠ 14 → vz_rd (L.2.1 (σ e)) (L.2.2.2.2 (σ e)) (fun i => vb (b e) i = true)) ∧ ((vx_J g (vx_r o 14) e = 1 ∧ vz_kn L (σ e) (b e)) ∨ (vx_J g (vx_r o 14) e = 0 ∧ ¬ vz_kn L (σ e) (b e)))) ∧
  (∀ e, e ≤ n → (0 ≤ b e ∧ b e < 256) ∧ ∀ i, vb (b e) i = true ↔ ∃ e', e' < e ∧ vz_lv L (σ e') i) ∧ (∀ e e', e < n → e' < n → σ e = σ e' → e = e')
def vz_pP (o : Nat) (L : vy_L) (O1 G : Int) (h : ve_H) (r : Int) (h1 : ve_H) : Prop := vx_fr (vz_Sp o) h h1 ∧ ∃ n σ b, n ≤ L.1 ∧ vz_st h1 o L n σ b ∧ r = b n ∧ (∀ j, j < L.1 → (∀ e, e < n → σ e ≠ j) → n < L.1 → L.2.1 j ≠ 14 ∧ ¬ vz_rd (L.2.1 j) (L.2.2.2.2 j) (fun i => vb (b n) i = true)) ∧ (O1 ≠ -1 → vx_J h1 o 15 = 7) ∧ (O1 = -1 → ∃ s : Nat, vx_J h1 o 15 = s ∧ s ≤ L.1 ∧ (s < L.1 → s ≤ n ∧ ∀ i, vb G i = true → vb (b s) i = true))
section
variable {d o : Nat} {h h1 : ve_H} {L : vy_L} {x y : Int}
theorem vz_rI (ho : vx_o 1 625 7 o) : (∀ k, ¬ vz_Sp o (vx_r o 8) k ∧ ¬ vz_Sp o (vx_r o 9) k ∧ ¬ vz_Sp o (vx_r o 10) k ∧ ¬ vz_Sp o (vx_r o 11) k) ∧ ¬ vz_Sp o o 6 ∧ ¬ vz_Sp o o 2 ∧ (vx_r o 12 ≠ o ∧ vx_r o 13 ≠ o ∧ vx_r o 14 ≠ o) ∧ (vx_r o 12 ≠ vx_r o 13 ∧ vx_r o 12 ≠ vx_r o 14 ∧ vx_r o 13 ≠ vx_r o 14) := by
  have r := vx_ro ho
  have r8 := r.2.1
  have r9 := r.2.2.1
  have r10 := r.2.2.2.1
  have r11 := r.2.2.2.2.1
  have r12 := r.2.2.2.2.2.1
  have r13 := r.2.2.2.2.2.2.1
  have r14 := r.2.2.2.2.2.2.2.1
  clear r
  refine ⟨fun k => ⟨?_, ?_, ?_, ?_⟩, ?_, ?_, ⟨?_, ?_, ?_⟩, ?_, ?_, ?_⟩ <;> omega
theorem vy_cl_pl (ho : vx_o 1 625 7 o) (C : vy_cl h o L) (f : vx_fr (vz_Sp o) h h1) : vy_cl h1 o L := vy_cl_fr C f ⟨(vz_rI ho).2.1, fun k => (vz_rI ho).1 k⟩
/-- one literal more -/
theorem vz_st_add {n l : Nat} {σ : Nat → Nat} {b : Nat → Int} {g g1 g2 g3 : ve_H} {k r : Int} (ho : vx_o 1 625 7 o) (S : vz_st g o L n σ b) (hl : l < L.1) (hl6 : L.1 ≤ 6) (hn : ∀ e, e < n → σ e ≠ l) (hrd : L.2.1 l ≠ 14 → vz_rd (L.2.1 l) (L.2.2.2.2 l) (fun i => vb (b n) i = true)) (e1 : g1 = vx_sJ g (vx_r o 12) n l) (e2 : g2 = vx_sJ g1 (vx_r o 13) n (b n)) (e3 : g3 = vx_sJ g2 (vx_r o 14) n k) (hk : (k = 1 ∧ vz_kn L l (b n)) ∨ (k = 0 ∧ ¬ vz_kn L l (b n))) (hr : 0 ≤ r ∧ r < 256) (hb : ∀ i, vb r i = true ↔ vz_lv L l i) :
    vz_st g3 o L (n + 1) (fun e => if e = n then l else σ e) (fun e => if e = n + 1 then vx_or (b n) r else b e) := by
  obtain ⟨-, -, -, ⟨-, -, -⟩, q1, q2, q3⟩ := vz_rI ho
  obtain ⟨s1, s2, s3⟩ := S
  have bn := s2 n (Nat.le_refl _)
  have kI : vx_rI k := by omega
  refine ⟨fun e he => ?_, fun e he => ?_, fun e e' h1 h2 h3 => ?_⟩
  · show (if e = n then l else σ e) < L.1 ∧ vx_J g3 (vx_r o 12) e = ((if e = n then l else σ e : Nat) : Int) ∧ vx_J g3 (vx_r o 13) e = (if e = n + 1 then vx_or (b n) r else b e) ∧ (L.2.1 (if e = n then l else σ e) ≠ 14 → vz_rd (L.2.1 (if e = n then l else σ e)) (L.2.2.2.2 (if e = n then l else σ e)) (fun i => vb (if e = n + 1 then vx_or (b n) r else b e) i = true)) ∧ ((vx_J g3 (vx_r o 14) e = 1 ∧ vz_kn L (if e = n then l else σ e) (if e = n + 1 then vx_or (b n) r else b e)) ∨ (vx_J g3 (vx_r o 14) e = 0 ∧ ¬ vz_kn L (if e = n then l else σ e) (if e = n + 1 then vx_or (b n) r else b e)))
    rw [if_neg (show ¬ e = n + 1 by omega)]
    by_cases q : e = n
    · rw [if_pos q, q]
      refine ⟨hl, ?_, ?_, hrd, ?_⟩
      · rw [e3, vx_J_ne (fun t => q2 t.1), e2, vx_J_ne (fun t => q1 t.1), e1, vx_J_eq (by omega)]
      · rw [e3, vx_J_ne (fun t => q3 t.1), e2, vx_J_eq (by omega)]
      · rw [e3, vx_J_eq kI]; exact hk
    · rw [if_neg q]
      have := s1 e (by omega)
      rw [e3, vx_J_ne (fun t => q2 t.1), vx_J_ne (fun t => q3 t.1), vx_J_ne (fun t => q t.2), e2, vx_J_ne (fun t => q1 t.1), vx_J_ne (fun t => q t.2), vx_J_ne (fun t => q3 t.1.symm), e1, vx_J_ne (fun t => q t.2), vx_J_ne (fun t => q1 t.1.symm), vx_J_ne (fun t => q2 t.1.symm)]
      exact this
  · show (0 ≤ (if e = n + 1 then vx_or (b n) r else b e) ∧ (if e = n + 1 then vx_or (b n) r else b e) < 256) ∧ ∀ i, vb (if e = n + 1 then vx_or (b n) r else b e) i = true ↔ ∃ e', e' < e ∧ vz_lv L (if e' = n then l else σ e') i
    by_cases q : e = n + 1
    · rw [if_pos q, q]
      refine ⟨vx_or_256 bn.1 hr, fun i => ?_⟩
      rw [vb_or (by omega) (by omega), Bool.or_eq_true, bn.2 i, hb i]
      constructor
      · rintro (⟨e', a1, a2⟩ | t)
        · exact ⟨e', by omega, by rw [if_neg (by omega)]; exact a2⟩
        · exact ⟨n, by omega, by rw [if_pos rfl]; exact t⟩
      · rintro ⟨e', a1, a2⟩
        by_cases q2 : e' = n
        · rw [if_pos q2] at a2; exact Or.inr a2
        · rw [if_neg q2] at a2; exact Or.inl ⟨e', by omega, a2⟩
    · rw [if_neg q]
      have := s2 e (by omega)
      refine ⟨this.1, fun i => (this.2 i).trans ⟨?_, ?_⟩⟩
      · rintro ⟨e', a1, a2⟩
        exact ⟨e', a1, by rw [if_neg (by omega)]; exact a2⟩
      · rintro ⟨e', a1, a2⟩
        rw [if_neg (by omega)] at a2
        exact ⟨e', a1, a2⟩
  · have h3 : (if e = n then l else σ e) = (if e' = n then l else σ e') := h3
    by_cases q : e = n
    · by_cases q2 : e' = n
      · omega
      · rw [if_pos q, if_neg q2] at h3
        exact absurd h3.symm (hn e' (by omega))
    · by_cases q2 : e' = n
      · rw [if_neg q, if_pos q2] at h3
        exact absurd h3 (hn e (by omega))
      · rw [if_neg q, if_neg q2] at h3
        exact s3 e e' (by omega) (by omega) h3
theorem vz_st_fr {n : Nat} {σ : Nat → Nat} {b : Nat → Int} {g g1 : ve_H} {S : Nat → Nat → Prop} (Q : vz_st g o L n σ b) (f : vx_fr S g g1) (hs : ∀ k, ¬ S (vx_r o 12) k ∧ ¬ S (vx_r o 13) k ∧ ¬ S (vx_r o 14) k) : vz_st g1 o L n σ b := by
  obtain ⟨s1, s2, s3⟩ := Q
  refine ⟨fun e he => ?_, s2, s3⟩
  rw [vx_fr_J f (hs e).1, vx_fr_J f (hs e).2.1, vx_fr_J f (hs e).2.2]
  exact s1 e he
theorem vc_185_42 {O1 G : Int} (ho : vx_o 1 625 7 o) (C : vy_cl h o L) (h2 : vx_J h o 2 = O1) (hG : 0 ≤ G ∧ G < 256) :
    ∀ (m n : Nat) (σ : Nat → Nat) (b : Nat → Int) (g : ve_H) (v3 v4 : Int) (v5 : Option Value) (s : Nat), m = L.1 - n → n ≤ L.1 → v4 = n → vx_T 1 625 g → vx_fr (vz_Sp o) h g → vz_st g o L n σ b → (0 ≤ v3 ∧ v3 < 256) → (∀ j, vb v3 j = true ↔ ∃ e, e < n ∧ σ e = j) → vx_J g o 15 = s → s ≤ L.1 → (s < L.1 → s ≤ n ∧ ∀ i, vb G i = true → vb (b s) i = true) →
    vx_W (d + 3 + 1) 185 42 [some (.ref o), some (.int (vx_i G)), some (.int (vx_i (b n))), some (.int (vx_i v3)), some (.int (vx_i v4)), v5] [] g (vx_RI (vz_pP o L O1 G h)) := by
  have I := vz_rI ho
  have L6 := C.2.1
  -- the end
  have END : ∀ (n : Nat) (σ : Nat → Nat) (b : Nat → Int) (g : ve_H) (s : Nat), n ≤ L.1 → vx_fr (vz_Sp o) h g → vz_st g o L n σ b → vx_J g o 15 = s → s ≤ L.1 → (s < L.1 → s ≤ n ∧ ∀ i, vb G i = true → vb (b s) i = true) → (∀ j, j < L.1 → (∀ e, e < n → σ e ≠ j) → n < L.1 → L.2.1 j ≠ 14 ∧ ¬ vz_rd (L.2.1 j) (L.2.2.2.2 j) (fun i => vb (b n) i = true)) → (vx_J g o 2 = -1 → vx_rI (b n) ∧ vz_pP o L O1 G h (b n) g) ∧ (vx_J g o 2 ≠ -1 → ∀ h5, h5 = vx_sJ g o 15 7 → vx_T 1 625 h5 → vx_rI (b n) ∧ vz_pP o L O1 G h (b n) h5) := by
    intro n σ b g s hn f S es hs1 hs2 hun
    have c2 : vx_J g o 2 = O1 := (vx_fr_J f I.2.2.1).trans h2
    have rb : vx_rI (b n) := by have := (S.2.1 n (Nat.le_refl _)).1; omega
    refine ⟨fun q => ⟨rb, f, n, σ, b, hn, S, rfl, hun, fun t => absurd (c2.symm.trans q) t, fun _ => ⟨s, es, hs1, hs2⟩⟩, fun q h5 e5 T5 => ⟨rb, vx_fr_sJ f e5 (Or.inr (Or.inr (Or.inr ⟨rfl, rfl⟩))), n, σ, b, hn, ?_, rfl, hun, fun _ => ?_, fun t => absurd (c2.trans t) q⟩⟩
    · exact vz_st_fr S (vx_fr_sJ (S := fun a _ => a = o) vx_fr_refl e5 rfl) (fun k => I.2.2.2.1)
    · rw [e5, vx_J_eq (by decide)]
  intro m
  induction m with
  | zero =>
    intro n σ b g v3 v4 v5 s hm hn h4 hT f S h3 hd es hs1 hs2
    have c6 : vx_J g o 6 = L.1 := (vx_fr_J f I.2.1).trans C.1
    have E := END n σ b g s hn f S es hs1 hs2 (fun j _ _ t => absurd t (by omega))
    refine vg_185_42 ho hT ?_
    rw [c6]
    exact ⟨by omega, fun _ => E, fun q => absurd q (by omega)⟩
  | succ m ih =>
    intro n σ b g v3 v4 v5 s hm hn h4 hT f S h3 hd es hs1 hs2
    have c6 : vx_J g o 6 = L.1 := (vx_fr_J f I.2.1).trans C.1
    have bn := S.2.1 n (Nat.le_refl _)
    have hsub := vb_sub (r := G) (x := b n) (by omega) (by omega)
    have TAIL : ∀ (g : ve_H) (s : Nat), vx_T 1 625 g → vx_fr (vz_Sp o) h g → vz_st g o L n σ b → vx_J g o 15 = s → s ≤ L.1 → (s < L.1 → s ≤ n ∧ ∀ i, vb G i = true → vb (b s) i = true) → vx_CI (d + 3) 186 [.ref o, .int (vx_i v3), .int (vx_i (b n))] g (fun r8 h8 => vx_T 1 625 h8 → ((r8 ≠ ((-1)) → (0 ≤ v4 ∧ v4 < 6) ∧ (∀ h11, h11 = vx_sJ h8 (vx_r o 12) v4.toNat r8 → vx_T 1 625 h11 → (0 ≤ v4 ∧ v4 < 6) ∧ (∀ h13, h13 = vx_sJ h11 (vx_r o 13) v4.toNat (b n) → vx_T 1 625 h13 → vx_CI (d + 3) 188 [.ref o, .int (vx_i r8), .int (vx_i (b n))] h13 (fun r14 h14 => vx_T 1 625 h14 → (0 ≤ v4 ∧ v4 < 6) ∧ (r14 = 0 ∨ r14 = 1) ∧ (∀ h17, h17 = vx_sJ h14 (vx_r o 14) v4.toNat r14 → vx_T 1 625 h17 → vx_CI (d + 3) 189 [.ref o, .int (vx_i r8)] h17 (fun r18 h18 => vx_T 1 625 h18 → vx_W (d + 3 + 1) 185 42 [some (.ref o), some (.int (vx_i G)), some (.int (vx_i (vx_or (b n) r18))), some (.int (vx_i (vx_or v3 (vx_shl 1 r8)))), some (.int (vx_i (v4 + 1))), some (.int (vx_i r8))] [] h18 (vx_RI (vz_pP o L O1 G h)))))))) ∧ (r8 = ((-1)) → (((vx_J h8 o 2) = ((-1)) → (vx_rI (b n)) ∧ vz_pP o L O1 G h (b n) h8) ∧ ((vx_J h8 o 2) ≠ ((-1)) → (∀ h21, h21 = vx_sJ h8 o 15 7 → vx_T 1 625 h21 → (vx_rI (b n)) ∧ vz_pP o L O1 G h (b n) h21)))))) := by
      intro g s hT f S es hs1 hs2
      have C1 := vy_cl_pl ho C f
      refine vx_CI_mono (vc_186 (d := d) ho hT C1 h3 bn.1) ?_
      rintro r8 h8 _ ⟨rfl, c⟩ T8
      rcases c with ⟨rfl, c⟩ | ⟨l, rfl, hl, hb, hrd⟩
      · refine ⟨fun t => absurd rfl t, fun _ => END n σ b h8 s hn f S es hs1 hs2 (fun j hj hnj _ => c j hj ?_)⟩
        cases e : vb v3 j with
        | false => rfl
        | true => obtain ⟨e', a1, a2⟩ := (hd j).mp e; exact absurd a2 (hnj e' a1)
      · have hnl : ∀ e, e < n → σ e ≠ l := fun e he t => by have := (hd l).mpr ⟨e, he, t⟩; rw [hb] at this; exact absurd this (by decide)
        refine ⟨fun _ => ⟨by omega, fun h11 e11 T11 => ⟨by omega, fun h13 e13 T13 => ?_⟩⟩, fun t => absurd t (by omega)⟩
        rw [show v4.toNat = n by omega] at e11 e13 ⊢
        have f13 : vx_fr (vz_Sp o) h h13 := vx_fr_sJ (vx_fr_sJ f e11 (Or.inl rfl)) e13 (Or.inr (Or.inl rfl))
        refine vx_CI_mono (vc_188 (d := d) ho T13 (vy_cl_pl ho C f13) hl rfl bn.1) ?_
        rintro r14 h14 _ ⟨rfl, c14⟩ T14
        refine ⟨by omega, by omega, fun h17 e17 T17 => ?_⟩
        have f17 : vx_fr (vz_Sp o) h h17 := vx_fr_sJ f13 e17 (Or.inr (Or.inr (Or.inl rfl)))
        refine vx_CI_mono (vc_189 (d := d + 1) ho T17 (vy_cl_pl ho C f17) hl rfl) ?_
        rintro r18 h18 _ ⟨rfl, hr18, hb18⟩ T18
        have S18 := vz_st_add (g := h8) (g1 := h11) (g2 := h14) (g3 := h18) (k := r14) (r := r18) ho S hl L6 hnl hrd e11 e13 e17 (by rcases c14 with ⟨a1, a2⟩ | ⟨a1, a2⟩; exact Or.inl ⟨a1, a2⟩; exact Or.inr ⟨a1, a2⟩) hr18 hb18
        have hl8 : (0 : Int) ≤ (l : Int) ∧ (l : Int) < 8 := by omega
        have sh := vx_shl_256 hl8
        have s15 : vx_J h18 o 15 = s := by
          rw [e17, vx_J_ne (fun t => I.2.2.2.1.2.2 t.1.symm), e13, vx_J_ne (fun t => I.2.2.2.1.2.1 t.1.symm), e11, vx_J_ne (fun t => I.2.2.2.1.1 t.1.symm)]
          exact es
        have K := ih (n + 1) _ _ h18 (vx_or v3 (vx_shl 1 (l : Int))) (v4 + 1) (some (.int (vx_i (l : Int)))) s (by omega) (by omega) (by omega) T18 f17 S18 (vx_or_256 h3 sh) (fun j => ?_) s15 hs1 (fun t => ⟨by have := (hs2 t).1; omega, fun i hi => ?_⟩)
        · rw [if_pos rfl] at K
          exact K
        · rw [vb_or (by omega) (by omega), vb_shl (by omega), Bool.or_eq_true, hd j, decide_eq_true_iff]
          constructor
          · rintro (⟨e, a1, a2⟩ | q)
            · exact ⟨e, by omega, by rw [if_neg (by omega)]; exact a2⟩
            · exact ⟨n, by omega, by rw [if_pos rfl]; omega⟩
          · rintro ⟨e, a1, a2⟩
            by_cases q : e = n
            · rw [if_pos q] at a2; right; omega
            · rw [if_neg q] at a2; exact Or.inl ⟨e, by omega, a2⟩
        · have h9 := (hs2 t).1
          rw [if_neg (by omega)]
          exact (hs2 t).2 i hi
    refine vg_185_42 ho hT ?_
    rw [c6, es]
    refine ⟨by omega, fun q => absurd q (by omega), fun _ => ⟨fun _ => TAIL g s hT f S es hs1 hs2, fun q0 => ⟨fun _ => TAIL g s hT f S es hs1 hs2, fun _ h39 e39 T39 => ?_⟩⟩⟩
    have f39 : vx_fr (vz_Sp o) h h39 := vx_fr_sJ f e39 (Or.inr (Or.inr (Or.inr ⟨rfl, rfl⟩)))
    refine TAIL h39 n T39 f39 (vz_st_fr S (vx_fr_sJ (S := fun a _ => a = o) vx_fr_refl e39 rfl) (fun k => I.2.2.2.1)) (by rw [e39, vx_J_eq (by omega), h4]) hn (fun _ => ⟨Nat.le_refl _, fun i hi => hsub.mp q0 i hi⟩)
end
