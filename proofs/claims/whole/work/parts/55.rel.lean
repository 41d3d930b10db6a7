/-! Reading relations: the class -/
/-! Frames of the reader and of a rule, each told once -/
section
variable {i o k0 a k : Nat} {h h1 : ve_H} {ts : vy_T} {V : vy_V} {L : vy_L}
abbrev vy_Sx (o a k : Nat) : Prop := (a = 7 ∧ (k = 9 ∨ k = 11 ∨ k = 12)) ∨ a = 17 ∨ a = 19 ∨ a = 20 ∨ (a = o ∧ k = 5) ∨ vy_Sl o a k
theorem vy_Sx_St (q : vy_St o k0 a k) : vy_Sx o a k := by omega
theorem vy_Sx_9 (q : a = 7 ∧ k = 9) : vy_Sx o a k := by omega
theorem vy_Sx_b (q : a = 7 ∧ (k = 11 ∨ k = 12)) : vy_Sx o a k := by omega
theorem vy_Sx_l (q : vy_Sl o a k) : vy_Sx o a k := Or.inr (Or.inr (Or.inr (Or.inr (Or.inr q))))
theorem vy_Sx_17 (q : a = 17) : vy_Sx o a k := Or.inr (Or.inl q)
/-- a rule's rows of literals lie apart from what a term's reading touches -/
theorem vy_rA (ho : vx_o 1 625 7 o) : (∀ k, ¬ vy_St o k0 o 6 ∧ ¬ vy_St o k0 (vx_r o 8) k ∧ ¬ vy_St o k0 (vx_r o 9) k ∧ ¬ vy_St o k0 (vx_r o 10) k ∧ ¬ vy_St o k0 (vx_r o 11) k) := by
  have r := vx_ro ho
  intro k
  rw [r.2.1, r.2.2.1, r.2.2.2.1, r.2.2.2.2.1]
  have q := r.2.2.2.2.2.2.2.2
  clear r
  omega
theorem vy_rB (ho : vx_o 1 625 7 o) : ∀ k, ¬ (o = 7 ∧ (6 : Nat) = 9) ∧ ¬ (vx_r o 8 = 7 ∧ k = 9) ∧ ¬ (vx_r o 9 = 7 ∧ k = 9) ∧ ¬ (vx_r o 10 = 7 ∧ k = 9) ∧ ¬ (vx_r o 11 = 7 ∧ k = 9) := by
  have r := vx_ro ho
  intro k
  rw [r.2.1, r.2.2.1, r.2.2.2.1, r.2.2.2.2.1]
  have q := r.2.2.2.2.2.2.2.2
  clear r
  omega
theorem vy_rC (ho : vx_o 1 625 7 o) : o ≠ 17 ∧ vx_r o 8 ≠ 17 ∧ vx_r o 9 ≠ 17 ∧ vx_r o 10 ≠ 17 ∧ vx_r o 11 ≠ 17 := by
  have r := vx_ro ho
  rw [r.2.1, r.2.2.1, r.2.2.2.1, r.2.2.2.2.1]
  have q := r.2.2.2.2.2.2.2.2
  clear r
  omega
theorem vy_cl_St (ho : vx_o 1 625 7 o) (C : vy_cl h o L) (f : vx_fr (vy_St o k0) h h1) : vy_cl h1 o L :=
  vy_cl_fr C f ⟨(vy_rA ho 0).1, fun k => (vy_rA ho k).2⟩
theorem vy_cl_9 (ho : vx_o 1 625 7 o) (C : vy_cl h o L) (f : vx_fr (fun a k => a = 7 ∧ k = 9) h h1) : vy_cl h1 o L :=
  vy_cl_fr C f ⟨(vy_rB ho 0).1, fun k => (vy_rB ho k).2⟩
theorem vy_cl_17 (ho : vx_o 1 625 7 o) (C : vy_cl h o L) (f : vx_fr (fun a _ => a = 17) h h1) : vy_cl h1 o L :=
  vy_cl_fr C f ⟨(vy_rC ho).1, fun _ => (vy_rC ho).2⟩
/-- and the reader's cells from where a literal is put -/
theorem vy_rD (ho : vx_o 1 625 7 o) : ∀ k j, (¬ vy_Sl o 4 k ∧ ¬ vy_Sl o 5 k ∧ ¬ vy_Sl o 6 k ∧ ¬ vy_Sl o 19 k ∧ ¬ vy_Sl o 20 k) ∧ ¬ vy_Sl o 7 j ∧ ¬ vy_Sl o o 5 ∧ ¬ vy_Sl o 17 k := by
  have r := vx_ro ho
  intro k j
  have r8 := r.2.1
  have r9 := r.2.2.1
  have r11 := r.2.2.2.2.1
  have q := r.2.2.2.2.2.2.2.2
  clear r
  omega
theorem vy_cb_Sl (ho : vx_o 1 625 7 o) (B : vy_cb h ts o i V) (f : vx_fr (vy_Sl o) h h1) : vy_cb h1 ts o i V :=
  vy_cb_fr B f (fun k => (vy_rD ho k 0).1) (vy_rD ho 0 9).2.1 (vy_rD ho 0 8).2.1 (vy_rD ho 0 0).2.2.1
theorem vy_cb_17 (ho : vx_o 1 625 7 o) (B : vy_cb h ts o i V) (f : vx_fr (fun a _ => a = 17) h h1) : vy_cb h1 ts o i V :=
  vy_cb_fr B f (fun k => by omega) (by omega) (by omega) (vy_rC ho).1
end
section
variable {d i o : Nat} {h : ve_H} {ts : vy_T} {V : vy_V} {O : vy_O} {L : vy_L} {x y : Int}
def vy_eP (ts : vy_T) (o : Nat) (L : vy_L) (pl : Int) (R : Int ⊕ (Nat × vy_V × Int × Int × (Nat → Int))) (h : ve_H) (r : Int) (h1 : ve_H) : Prop := vx_fr (vy_Sx o) h h1 ∧ match R with
  | .inl p => r = 0 ∧ vy_bad p h1
  | .inr q => r = 1 ∧ vy_cb h1 ts o q.1 q.2.1 ∧ vy_cl h1 o (vy_la L q.2.2.1 q.2.2.2.1 pl q.2.2.2.2) ∧ vy_fx h h1
def vy_s4 (ts : vy_T) (o : Nat) (L : vy_L) (pl : Int) (h g : ve_H) (j : Nat) (W : vy_V) (A : Nat → Int) : Prop := vx_fr (vy_Sx o) h g ∧ vy_fx h g ∧ vy_cb g ts o j W ∧ (∀ k, k < 4 → vx_K g 17 k = A k) ∧ vy_cl g o L ∧ vx_J g (vx_r o 10) L.1 = pl
theorem vy_s4_at {g g1 : ve_H} {j : Nat} {W : vy_V} {A : Nat → Int} {pl : Int} (ho : vx_o 1 625 7 o) (ok : vy_ok ts) (S : vy_s4 ts o L pl h g j W A) (e : g1 = vx_sJ g 7 9 ((j : Int) + 1)) (hk : vy_k ts j ≠ 0) : vy_s4 ts o L pl h g1 (j + 1) W A := by
  obtain ⟨s1, s2, s3, s4, s5, s6⟩ := S
  have f : vx_fr (fun a k => a = 7 ∧ k = 9) g g1 := vx_fr_sJ vx_fr_refl e ⟨rfl, rfl⟩
  have hj := s3.2.2.1
  have hl := ok.2.1
  exact ⟨vx_fr_trans s1 (vx_fr_mono f (fun a k q => vy_Sx_9 q)), ⟨(vx_fr_J f (by omega)).trans s2.1, (vx_fr_J f (by omega)).trans s2.2⟩, vy_cb_at s3 e (by omega) (vy_nx ok hj hk) (by omega), fun k hk => (vx_fr_K f (by omega)).trans (s4 k hk), vy_cl_9 ho s5 f, (vx_fr_J f (vy_rB ho _).2.2.2.1).trans s6⟩
/-- one term more -/
theorem vc_160r {g : ve_H} {j k0 : Nat} {W : vy_V} {A : Nat → Int} {pl : Int} {P : Int → ve_H → Prop} (ho : vx_o 1 625 7 o) (ok : vy_ok ts) (hT : vx_T 1 625 g) (S : vy_s4 ts o L pl h g j W A) (hk : k0 < 4) (hx : x = k0)
    (X1 : ∀ p g1, vy_tm ts false j W = .inl p → vx_fr (vy_Sx o) h g1 → vy_bad p g1 → P 0 g1)
    (X2 : ∀ q g1, vx_T 1 625 g1 → vy_tm ts false j W = .inr q → vy_s4 ts o L pl h g1 q.2.1 q.2.2 (vy_set A k0 q.1) → P 1 g1) :
    vx_CI (d + 1) 160 [.ref 7, .int (vx_i x), .int (vx_i 17)] g (fun r h1 => vx_T 1 625 h1 → P r h1) := by
  obtain ⟨s1, s2, s3, s4, s5, s6⟩ := S
  refine vx_CI_mono (vc_160 (k0 := k0) (any := false) hT ok s3 hk hx (by omega) ⟨fun t => absurd t (by decide), fun t => by exfalso; omega⟩) ?_
  rintro r1 h1 _ ⟨f1, p1⟩ T1
  have f1' : vx_fr (vy_Sx o) h h1 := vx_fr_trans s1 (vx_fr_mono f1 (fun a k q => vy_Sx_St q))
  cases e : vy_tm ts false j W with
  | inl p =>
    rw [e] at p1
    obtain ⟨rfl, b⟩ := p1
    exact X1 p h1 e f1' b
  | inr q =>
    rw [e] at p1
    obtain ⟨rfl, k1, B1, x1⟩ := p1
    refine X2 q h1 T1 e ⟨f1', ⟨x1.1.trans s2.1, x1.2.trans s2.2⟩, B1, fun k hk2 => ?_, vy_cl_St ho s5 f1, (vx_fr_J f1 (vy_rA ho _).2.2.2.1).trans s6⟩
    by_cases qk : k = k0
    · rw [qk, vy_set_eq]; exact k1
    · rw [vy_set_lt qk]
      exact (vx_fr_K f1 (by omega)).trans (s4 k hk2)
theorem vc_156 {pl : Int} (hT : vx_T 1 625 h) (ok : vy_ok ts) (B : vy_cb h ts o i V) (C : vy_cl h o L) (hL : L.1 < 6) (hx : x = L.1) (hp : vx_J h (vx_r o 10) L.1 = pl) : vx_CI (d + 2) 156 [.ref 7, .int (vx_i x)] h (vy_eP ts o L pl (vy_re ts i V) h) := by
  have ho := B.2.2.2.2.1
  -- the end
  have PUT : ∀ (g : ve_H) (j : Nat) (W : vy_V) (A : Nat → Int) (k e : Int), vx_T 1 625 g → vx_rI k → vx_rI e → vy_s4 ts o L pl h g j W A → vy_re ts i V = .inr (j, W, k, e, A) → ∃ b13, ve_R g 7 8 = some b13 ∧ vx_o 1 625 7 b13 ∧ vx_CV (d + 1) 183 [.ref b13, .int (vx_i x), .int (vx_i k), .int (vx_i e), .ref 17] g (fun h14 => vx_T 1 625 h14 → vy_eP ts o L pl (vy_re ts i V) h 1 h14) := by
    intro g j W A k e Tg hk he S eR
    obtain ⟨s1, s2, s3, s4, s5, s6⟩ := S
    refine ⟨o, s3.2.2.2.1, ho, vx_CV_mono (vc_183 Tg ho s5 hL hx hk he s6 s4) ?_⟩
    rintro h14 ⟨f14, c14⟩ T14
    rw [eR]
    exact ⟨vx_fr_trans s1 (vx_fr_mono f14 (fun a k q => vy_Sx_l q)), rfl, vy_cb_Sl ho s3 f14, c14, (vx_fr_J f14 (vy_rD ho 0 11).2.1).trans s2.1, (vx_fr_J f14 (vy_rD ho 0 12).2.1).trans s2.2⟩
  have REF : ∀ {d : Nat} (g : ve_H) (j : Nat) (W : vy_V) (A : Nat → Int), vx_T 1 625 g → vy_s4 ts o L pl h g j W A → vy_re ts i V = .inl (vy_p ts j) → vx_CI d 163 [.ref 7] g (fun r8 h8 => vx_T 1 625 h8 → vx_CI d 166 [.ref 7, .int (vx_i r8)] h8 (fun r9 h9 => vx_T 1 625 h9 → (r9 = 0 ∨ r9 = 1) ∧ vy_eP ts o L pl (vy_re ts i V) h r9 h9)) := by
    intro d g j W A Tg S eR
    refine vc_ref Tg ok S.2.2.1 (fun h1 f1 b1 => ?_)
    rw [eR]
    exact ⟨vx_fr_trans S.1 (vx_fr_mono f1 (fun a k q => vy_Sx_b q)), rfl, b1⟩
  have BAD : ∀ p g, vy_re ts i V = .inl p → vx_fr (vy_Sx o) h g → vy_bad p g → vy_eP ts o L pl (vy_re ts i V) h 0 g := by
    intro p g e f b
    rw [e]
    exact ⟨f, rfl, b⟩
  refine vg_156 hT (vx_CV_mono (vc_218 (by decide +kernel) hT (by omega)) ?_)
  rintro h1 ⟨f1, z1⟩ T1
  have z17 : vx_za 17 = 4 := by decide +kernel
  have S1 : vy_s4 ts o L pl h h1 i V (fun _ => 0) := ⟨vx_fr_mono f1 (fun a k q => vy_Sx_17 q), ⟨vx_fr_J f1 (by omega), vx_fr_J f1 (by omega)⟩, vy_cb_17 ho B f1, fun k hk => z1 k (by omega), vy_cl_17 ho C f1, (vx_fr_J f1 (vy_rC ho).2.2.2.1).trans hp⟩
  refine vx_CI_mono (vc_162 T1 ok S1.2.2.1) ?_
  rintro r2 h2 _ ⟨rfl, rfl⟩ _
  -- a relation's second term
  have REL : ∀ (q : Int × Nat × vy_V) (g : ve_H), vx_T 1 625 g → vy_tm ts false i V = .inr q → vy_s4 ts o L pl h g q.2.1 q.2.2 (vy_set (fun _ => 0) 0 q.1) → ¬ (vy_k ts i = 3 ∧ vy_k ts q.2.1 = 5) → vx_CI (d + 1) 169 [.int (vx_i (vy_k ts q.2.1))] g (fun r7 h7 => vx_T 1 625 h7 → ((r7 ≠ 0 → (∀ h9, h9 = vx_sJ h7 7 9 ((vx_J h7 7 9) + 1) → vx_T 1 625 h9 → vx_CI (d + 1) 160 [.ref 7, .int (vx_i 1), .int (vx_i 17)] h9 (fun r10 h10 => vx_T 1 625 h10 → ((r10 ≠ 0 → vx_CI (d + 1) 162 [.ref 7] h10 (fun r12 h12 => vx_T 1 625 h12 → (∃ b13, ve_R h12 7 8 = some b13 ∧ vx_o 1 625 7 b13 ∧ vx_CV (d + 1) 183 [.ref b13, .int (vx_i x), .int (vx_i (vy_k ts q.2.1)), .int (vx_i r12), .ref 17] h12 (fun h14 => vx_T 1 625 h14 → vy_eP ts o L pl (vy_re ts i V) h 1 h14)))) ∧ (r10 = 0 → vy_eP ts o L pl (vy_re ts i V) h 0 h10))))) ∧ (r7 = 0 → vx_CI (d + 1) 163 [.ref 7] h7 (fun r15 h15 => vx_T 1 625 h15 → vx_CI (d + 1) 166 [.ref 7, .int (vx_i r15)] h15 (fun r16 h16 => vx_T 1 625 h16 → (r16 = 0 ∨ r16 = 1) ∧ vy_eP ts o L pl (vy_re ts i V) h r16 h16))))) := by
    intro q g Tg e S hno
    have hkr : vx_rI (vy_k ts q.2.1) := by rw [← (vy_kc S.2.2.1.1 S.2.2.1.2.2.1).1]; exact vx_rI_J _ _ _
    have e0 : vy_re ts i V = if vy_rel (vy_k ts q.2.1) then
      (match vy_tm ts false (q.2.1 + 1) q.2.2 with
       | .inl p => .inl p
       | .inr u => .inr (u.2.1, u.2.2, vy_k ts q.2.1, vy_k ts u.2.1, vy_set (vy_set (fun _ => 0) 0 q.1) 1 u.1))
      else .inl (vy_p ts q.2.1) := by
      unfold vy_re
      rw [e]
      exact if_neg hno
    refine vx_CI_mono (vc_169 Tg hkr) ?_
    rintro r7 h7 _ ⟨rfl, hr7⟩ _
    refine ⟨fun q7 h9 e9 T9 => ?_, fun q7 => REF h7 q.2.1 q.2.2 _ Tg S (by rw [e0, if_neg (by omega)])⟩
    rw [if_pos (by omega)] at e0
    rw [S.2.2.1.2.1] at e9
    have S9 := vy_s4_at ho ok S e9 (by omega)
    refine vc_160r (k0 := 1) ho ok T9 S9 (by omega) rfl (fun p g1 e1 f1 b1 => ⟨fun t => absurd rfl t, fun _ => BAD p g1 (by rw [e0, e1]) f1 b1⟩) (fun u g1 T10 e1 S10 => ⟨fun _ => vx_CI_mono (vc_162 T10 ok S10.2.2.1) ?_, fun t => absurd t (by omega)⟩)
    rintro r12 h12 hr12 ⟨rfl, rfl⟩ T12
    rw [e1] at e0
    exact PUT h12 _ _ _ _ _ T10 hkr hr12 S10 e0
  refine ⟨fun q3 => vc_160r (k0 := 0) ho ok T1 S1 (by omega) rfl (fun p g1 e1 f1 b1 => ⟨fun t => absurd rfl t, fun _ => BAD p g1 (by unfold vy_re; rw [e1]) f1 b1⟩) (fun q g1 T4 e1 S4 => ⟨fun _ => vx_CI_mono (vc_162 T4 ok S4.2.2.1) ?_, fun t => absurd t (by omega)⟩), fun q3 => vc_160r (k0 := 0) ho ok T1 S1 (by omega) rfl (fun p g1 e1 f1 b1 => ⟨fun t => absurd rfl t, fun _ => BAD p g1 (by unfold vy_re; rw [e1]) f1 b1⟩) (fun q g1 T4 e1 S4 => ⟨fun _ => vx_CI_mono (vc_162 T4 ok S4.2.2.1) ?_, fun t => absurd t (by omega)⟩)⟩
  · rintro r6 h6 _ ⟨rfl, rfl⟩ T6
    exact REL q h6 T4 e1 S4 (fun t => q3 t.1)
  · rintro r20 h20 hr20 ⟨rfl, rfl⟩ T20
    refine ⟨fun q5 => REL q h20 T4 e1 S4 (fun t => q5 t.2), fun q5 h33 e33 T33 => ?_⟩
    have e0 : vy_re ts i V = match vy_tm ts false (q.2.1 + 1) q.2.2 with
       | .inl p => .inl p
       | .inr u => if vy_opn (vy_k ts u.2.1) then
           (match vy_tm ts false (u.2.1 + 1) u.2.2 with
            | .inl p => .inl p
            | .inr w => .inr (w.2.1, w.2.2, 5, vy_k ts u.2.1, vy_set (vy_set (vy_set (fun _ => 0) 0 q.1) 1 u.1) 2 w.1))
         else .inl (vy_p ts u.2.1) := by
      unfold vy_re
      rw [e1]
      exact if_pos ⟨q3, q5⟩
    rw [S4.2.2.1.2.1] at e33
    have S33 := vy_s4_at ho ok S4 e33 (by omega)
    refine vc_160r (k0 := 1) ho ok T33 S33 (by omega) rfl (fun p g1 e2 f1 b1 => ⟨fun t => absurd rfl t, fun _ => BAD p g1 (by rw [e0, e2]) f1 b1⟩) (fun u g1 T34 e2 S34 => ⟨fun _ => vx_CI_mono (vc_162 T34 ok S34.2.2.1) ?_, fun t => absurd t (by omega)⟩)
    rintro r36 h36 hr36 ⟨rfl, rfl⟩ T36
    rw [e2] at e0
    have e0 : vy_re ts i V = if vy_opn (vy_k ts u.2.1) then
           (match vy_tm ts false (u.2.1 + 1) u.2.2 with
            | .inl p => .inl p
            | .inr w => .inr (w.2.1, w.2.2, 5, vy_k ts u.2.1, vy_set (vy_set (vy_set (fun _ => 0) 0 q.1) 1 u.1) 2 w.1))
         else .inl (vy_p ts u.2.1) := e0
    refine vx_CI_mono (vc_170 T34 hr36) ?_
    rintro r37 h37 _ ⟨rfl, hr37⟩ _
    refine ⟨fun q37 h39 e39 T39 => ?_, fun q37 => REF h37 u.2.1 u.2.2 _ T34 S34 (by rw [e0, if_neg (by omega)])⟩
    rw [if_pos (by omega)] at e0
    rw [S34.2.2.1.2.1] at e39
    have S39 := vy_s4_at ho ok S34 e39 (by omega)
    refine vc_160r (k0 := 2) ho ok T39 S39 (by omega) rfl (fun p g1 e3 f1 b1 => ⟨fun t => absurd rfl t, fun _ => BAD p g1 (by rw [e0, e3]) f1 b1⟩) (fun w g1 T40 e3 S40 => ⟨fun _ => ?_, fun t => absurd t (by omega)⟩)
    rw [e3] at e0
    have := PUT g1 _ _ _ 5 (vy_k ts u.2.1) T40 (by omega) hr36 S40 e0
    rw [← q5] at this
    exact this
end
