/-! Reading literals and bodies: what comes out; the class -/
abbrev vy_R6 : Type := Int ⊕ (Nat × vy_V × vy_V × vy_F × vy_L × Nat)
def vy_li (ts : vy_T) (op : Bool) (i : Nat) (V : vy_V) (O : vy_O) (Pd : vy_V) (F : vy_F) (L : vy_L) (at_ : Nat) : vy_R6 :=
  if vy_k ts i = 33 then
    (match vy_am ts op false true (i + 1) V O Pd F with
     | .inl p => .inl p
     | .inr q => .inr (q.1, q.2.1, q.2.2.2.2.2.2.1, q.2.2.2.2.2.2.2, vy_la L 15 q.2.2.2.2.2.1 (vy_p ts i) q.2.2.2.1, at_))
  else if vy_k ts i = 2 ∧ vy_k ts (i + 1) = 40 then
    (if 3 ≤ at_ then .inl (vy_p ts i)
     else match vy_am ts op false (decide (O.1 = -1)) i V O Pd F with
     | .inl p => .inl p
     | .inr q => .inr (q.1, q.2.1, q.2.2.2.2.2.2.1, q.2.2.2.2.2.2.2, vy_la L 14 q.2.2.2.2.2.1 (vy_p ts i) q.2.2.2.1, at_ + 1))
  else match vy_re ts i V with
    | .inl p => .inl p
    | .inr q => .inr (q.1, q.2.1, Pd, F, vy_la L q.2.2.1 q.2.2.2.1 (vy_p ts i) q.2.2.2.2, at_)
def vy_bo (ts : vy_T) (op : Bool) (O : vy_O) : Nat → Nat → vy_V → vy_V → vy_F → vy_L → Nat → vy_R6
  | 0, i, _, _, _, _, _ => .inl (vy_p ts i)
  | m + 1, i, V, Pd, F, L, at_ => match vy_li ts op i V O Pd F L at_ with
    | .inl p => .inl p
    | .inr q => if vy_k ts q.1 = 44 then vy_bo ts op O m (q.1 + 1) q.2.1 q.2.2.1 q.2.2.2.1 q.2.2.2.2.1 q.2.2.2.2.2 else .inr q
/-- the class's reader within a body -/
def vy_cs (h : ve_H) (ts : vy_T) (o pi : Nat) (op : Bool) (i : Nat) (V : vy_V) (O : vy_O) (Pd : vy_V) (F : vy_F) (L : vy_L) (at_ : Nat) : Prop := vy_cr h ts o pi op i V O Pd F ∧ vy_cl h o L ∧ vx_J h o 7 = at_ ∧ at_ ≤ 3

def vy_lP (ts : vy_T) (o pi : Nat) (op : Bool) (O : vy_O) (R : vy_R6) (h : ve_H) (r : Int) (h1 : ve_H) : Prop := vx_fr (vy_Sy o pi op) h h1 ∧ match R with
  | .inl p => r = 0 ∧ vy_bad p h1
  | .inr q => r = 1 ∧ vy_cs h1 ts o pi op q.1 q.2.1 O q.2.2.1 q.2.2.2.1 q.2.2.2.2.1 q.2.2.2.2.2
section
variable {d i o pi at_ : Nat} {h : ve_H} {ts : vy_T} {V Pd : vy_V} {O : vy_O} {F : vy_F} {L : vy_L} {x y : Int} {op : Bool}
theorem vy_ar_O {any : Bool} : ∀ (m i : Nat) (V : vy_V) (A : Nat → Int) {q : Nat × vy_V × vy_O × (Nat → Int) × Nat}, vy_ar ts false any m i V O A = .inr q → q.2.2.1 = O
  | 0, i, V, A, q, e => by cases e
  | m + 1, i, V, A, q, e => by
    unfold vy_ar at e
    rw [if_neg (by simp)] at e
    split at e
    · cases e
    split at e
    · exact vy_ar_O m _ _ _ e
    · cases e; rfl
theorem vy_am_O {any : Bool} {q : Nat × vy_V × vy_O × (Nat → Int) × Nat × Int × vy_V × vy_F} (e : vy_am ts op false any i V O Pd F = .inr q) : q.2.2.1 = O := by
  unfold vy_am at e
  split at e
  · cases e
  split at e
  · cases e
  split at e
  · cases e
  split at e
  · cases e
  rename_i u hu
  have := vy_ar_O 4 (i + 2) V (fun _ => 0) hu
  split at e
  · cases e
  split at e
  · cases e; exact this
  split at e
  · cases e; exact this
  · cases e; exact this
theorem vy_li_L {q : Nat × vy_V × vy_V × vy_F × vy_L × Nat} (e : vy_li ts op i V O Pd F L at_ = .inr q) : q.2.2.2.2.1.1 = L.1 + 1 := by
  unfold vy_li at e
  split at e
  · split at e
    · cases e
    · cases e; rfl
  split at e
  · split at e
    · cases e
    split at e
    · cases e
    · cases e; rfl
  · split at e
    · cases e
    · cases e; rfl
theorem vy_cr_x {h1 : ve_H} {j : Nat} {W : vy_V} (ho : vx_o 1 625 7 o) (hp : vx_o 1 625 5 pi) (B : vy_cr h ts o pi op i V O Pd F) (f : vx_fr (vy_Sx o) h h1) (B1 : vy_cb h1 ts o j W) (x1 : vy_fx h h1) : vy_cr h1 ts o pi op j W O Pd F := by
  have H := vy_rH ho hp
  have n67 : ¬ vy_Sx o 7 6 ∧ ¬ vy_Sx o 7 7 := by
    have r := vx_ro ho
    have r8 := r.2.1
    have r9 := r.2.2.1
    have r11 := r.2.2.2.2.1
    have q := r.2.2.2.2.2.2.2.2
    clear r H
    constructor <;> (intro t; rcases t with t | t | t | t | t | t | t | t | t <;> omega)
  exact ⟨B1, vy_co_fr B.2.1 f ⟨(H 0).1, (H 0).2.1, (H 0).2.2.1⟩, (vx_fr_R f n67.1).trans B.2.2.1, (vx_fr_J f n67.2).trans B.2.2.2.1, vy_cp_fr B.2.2.2.2.1 f ⟨(H 0).2.2.2.2.1, fun k => (H k).2.2.2.2.2⟩, x1.1.trans B.2.2.2.2.2.1, x1.2.trans B.2.2.2.2.2.2⟩
theorem vy_cl_put {h1 : ve_H} {k : Nat} {v : Int} (ho : vx_o 1 625 7 o) (hp : vx_o 1 625 5 pi) (C : vy_cl h o L) (e : h1 = vx_sJ h (vx_r o 10) k v) (hk : L.1 ≤ k) : vy_cl h1 o L := by
  obtain ⟨-, -, -, -, -, -, -, -, g9, -, g11, g12, g13, -⟩ := vy_rG ho hp
  have f : vx_fr (fun a _ => a = vx_r o 10) h h1 := vx_fr_sJ vx_fr_refl e rfl
  obtain ⟨c1, c2, c3⟩ := C
  refine ⟨(vx_fr_J f g9.symm).trans c1, c2, fun j hj => ?_⟩
  obtain ⟨a1, a2, a3, a4⟩ := c3 j hj
  exact ⟨(vx_fr_J f g11.symm).trans a1, (vx_fr_J f g12.symm).trans a2, by rw [e, vx_J_ne (fun t => by have := t.2; omega)]; exact a3, fun k hk => (vx_fr_K f g13.symm).trans (a4 k hk)⟩
/-- an atom of a body, and its literal -/
theorem vc_lit {g : ve_H} {j rl : Nat} {any : Bool} {P : Int → ve_H → Prop} {aa : Nat} (hT : vx_T 1 625 g) (ok : vy_ok ts) (ho : vx_o 1 625 7 o) (hpi : vx_o 1 625 5 pi) (B : vy_cr g ts o pi op j V O Pd F) (C : vy_cl g o L) (hL : L.1 < 6) (hx : x = L.1) (hrl : rl = 14 ∨ rl = 15) (ha : any = true ↔ (rl = 15 ∨ (rl = 14 ∧ O.1 = -1))) (hpl : vx_J g (vx_r o 10) L.1 = y) (h7 : vx_J g o 7 = aa) (ha3 : aa ≤ 3) (fg : vx_fr (vy_Sy o pi op) h g)
    (X1 : ∀ p g1, vy_am ts op false any j V O Pd F = .inl p → vx_fr (vy_Sy o pi op) h g1 → vy_bad p g1 → P 0 g1)
    (X2 : ∀ q g1, vy_am ts op false any j V O Pd F = .inr q → vx_fr (vy_Sy o pi op) h g1 → vy_cs g1 ts o pi op q.1 q.2.1 O q.2.2.2.2.2.2.1 q.2.2.2.2.2.2.2 (vy_la L rl q.2.2.2.2.2.1 y q.2.2.2.1) aa → P 1 g1) :
    vx_CI (d + 3) 157 [.ref 7, .int (vx_i rl)] g (fun r16 h16 => vx_T 1 625 h16 → ((r16 ≠ 0 → (∃ b18, ve_R h16 7 8 = some b18 ∧ vx_o 1 625 7 b18 ∧ vx_CV (d + 3) 183 [.ref b18, .int (vx_i x), .int (vx_i rl), .int (vx_i (vx_J h16 7 10)), .ref 17] h16 (fun h19 => vx_T 1 625 h19 → P 1 h19))) ∧ (r16 = 0 → P 0 h16))) := by
  refine vx_CI_mono (vc_157 (d := d) (hd := false) (any := any) hT ok B (by omega) ⟨fun t => absurd t (by decide), fun t => by exfalso; omega⟩ (by
    constructor
    · intro t; have := ha.mp t; omega
    · intro t; exact ha.mpr (by omega))) ?_
  rintro r16 h16 _ ⟨f16, p16⟩ T16
  have F16 : vx_fr (vy_Sy o pi op) h h16 := vx_fr_trans fg (vx_fr_mono f16 (fun a k q => vy_Sy_m q))
  cases e : vy_am ts op false any j V O Pd F with
  | inl p =>
    rw [e] at p16
    obtain ⟨rfl, b⟩ := p16
    exact ⟨fun t => absurd rfl t, fun _ => X1 p h16 e F16 b⟩
  | inr q =>
    rw [e] at p16
    obtain ⟨rfl, C16, A16, n16⟩ := p16
    rw [vy_am_O e] at C16
    have L16 := vy_cl_m ho hpi C f16
    refine ⟨fun _ => ⟨o, C16.1.2.2.2.1, ho, ?_⟩, fun t => absurd t (by omega)⟩
    have hy : vx_J h16 (vx_r o 10) L.1 = y := (vx_fr_J f16 (vy_rE ho hpi _).2.2.2.1).trans hpl
    refine vx_CV_mono (vc_183 (p := y) (e := vx_J h16 7 10) (k := rl) T16 ho L16 hL hx (by omega) (vx_rI_J _ _ _) hy A16) ?_
    rintro h19 ⟨f19, c19⟩ T19
    rw [n16] at c19
    refine X2 q h19 e (vx_fr_trans F16 (vx_fr_mono f19 (fun a k q => vy_Sy_l q))) ⟨vy_cr_l ho hpi C16 f19, c19, ?_, ha3⟩
    exact (vx_fr_J f19 (vy_rF ho hpi).2.2).trans ((vx_fr_J f16 (vy_rE ho hpi 0).2.2.2.2.2).trans h7)
theorem vy_cl_7 {h1 : ve_H} (ho : vx_o 1 625 7 o) (C : vy_cl h o L) (f : vx_fr (fun a k => a = o ∧ k = 7) h h1) : vy_cl h1 o L := by
  have r := vx_ro ho
  refine vy_cl_fr C f ⟨fun t => absurd t.2 (by decide), fun k => ⟨fun t => ?_, fun t => ?_, fun t => ?_, fun t => ?_⟩⟩
  · have := t.1; have := r.2.1; omega
  · have := t.1; have := r.2.2.1; omega
  · have := t.1; have := r.2.2.2.1; omega
  · have := t.1; have := r.2.2.2.2.1; omega
theorem vc_155 (hT : vx_T 1 625 h) (ok : vy_ok ts) (B : vy_cs h ts o pi op i V O Pd F L at_) (hL : L.1 < 6) (hx : x = L.1) : vx_CI (d + 4) 155 [.ref 7, .int (vx_i x)] h (vy_lP ts o pi op O (vy_li ts op i V O Pd F L at_) h) := by
  obtain ⟨Br, Bl, Ba, B3⟩ := B
  obtain ⟨Bb, Bo, B6, B7, Bp, Bf⟩ := id Br
  have ho := Bb.2.2.2.2.1
  have hpi := Bp.1
  have hl := ok.2.1
  have hi := Bb.2.2.1
  have hp := ok.2.2.2.1 i hi
  refine vg_155 hT ⟨o, Bb.2.2.2.1, ho, vx_CI_mono (vc_163 hT ok Bb) ?_⟩
  rintro r2 h2 hr2 ⟨rfl, rfl⟩ _
  refine ⟨by omega, fun h4 e4 T4 => ?_⟩
  rw [show x.toNat = L.1 by omega] at e4
  have f4 : vx_fr (fun a _ => a = vx_r o 10) h2 h4 := vx_fr_sJ vx_fr_refl e4 rfl
  have C4 : vy_cr h4 ts o pi op i V O Pd F := vy_cr_p ho hpi Br f4
  have F4 : vx_fr (vy_Sy o pi op) h2 h4 := vx_fr_mono f4 (fun a k q => vy_Sy_p q)
  have L4 : vy_cl h4 o L := vy_cl_put ho hpi Bl e4 (Nat.le_refl _)
  have p4 : vx_J h4 (vx_r o 10) L.1 = vy_p ts i := by rw [e4, vx_J_eq (by omega)]
  have a4 : vx_J h4 o 7 = at_ := (vx_fr_J f4 (vy_rG ho hpi).2.2.2.2.2.2.2.2.1.symm).trans Ba
  refine vx_CI_mono (vc_164 T4 ok C4.1 (by omega) (by omega)) ?_
  rintro r5 h5 _ (⟨rfl, q33, e5, B5⟩ | ⟨rfl, q33, rfl⟩) T5
  · -- one that must not be
    have f5 : vx_fr (fun a k => a = 7 ∧ k = 9) h4 h5 := vx_fr_sJ vx_fr_refl e5 ⟨rfl, rfl⟩
    have C5 : vy_cr h5 ts o pi op (i + 1) V O Pd F := vy_cr_9 ho hpi C4 f5 B5
    have F5 : vx_fr (vy_Sy o pi op) h2 h5 := vx_fr_trans F4 (vx_fr_mono f5 (fun a k q => vy_Sy_9 q))
    have e0 : vy_li ts op i V O Pd F L at_ = match vy_am ts op false true (i + 1) V O Pd F with
     | .inl p => .inl p
     | .inr q => .inr (q.1, q.2.1, q.2.2.2.2.2.2.1, q.2.2.2.2.2.2.2, vy_la L 15 q.2.2.2.2.2.1 (vy_p ts i) q.2.2.2.1, at_) := if_pos q33
    refine ⟨fun t => absurd t (by omega), fun _ => ?_⟩
    refine vc_lit (d := d) (rl := 15) (any := true) (aa := at_) T5 ok ho hpi C5 (vy_cl_9 ho L4 f5) hL hx (Or.inr rfl) (by simp) ((vx_fr_J f5 (vy_rB ho _).2.2.2.1).trans p4) ((vx_fr_J f5 (fun t => absurd t.2 (by decide))).trans a4) B3 F5 (fun p g1 e1 f1 b1 => ?_) (fun q g1 e1 f1 c1 => ?_)
    · rw [e0, e1]
      exact ⟨f1, rfl, b1⟩
    · rw [e0, e1]
      exact ⟨f1, rfl, c1⟩
  · refine ⟨fun _ => vx_CI_mono (vc_162 T5 ok C4.1) ?_, fun t => absurd rfl t⟩
    rintro r7 h7 _ ⟨rfl, rfl⟩ T7
    -- a relation
    have REL : ¬ (vy_k ts i = 2 ∧ vy_k ts (i + 1) = 40) → vx_CI (d + 3) 156 [.ref 7, .int (vx_i x)] h7 (fun r9 h9 => vx_T 1 625 h9 → (r9 = 0 ∨ r9 = 1) ∧ vy_lP ts o pi op O (vy_li ts op i V O Pd F L at_) h2 r9 h9) := by
      intro hno
      have e0 : vy_li ts op i V O Pd F L at_ = match vy_re ts i V with
        | .inl p => .inl p
        | .inr q => .inr (q.1, q.2.1, Pd, F, vy_la L q.2.2.1 q.2.2.2.1 (vy_p ts i) q.2.2.2.2, at_) := by
        unfold vy_li
        rw [if_neg q33, if_neg hno]
      refine vx_CI_mono (vc_156 (d := d + 1) T5 ok C4.1 L4 hL hx p4) ?_
      rintro r9 h9 _ ⟨f9, p9⟩ T9
      have F9 : vx_fr (vy_Sy o pi op) h2 h9 := vx_fr_trans F4 (vx_fr_mono f9 (fun a k q => vy_Sy_x q))
      rw [e0]
      cases e : vy_re ts i V with
      | inl p =>
        rw [e] at p9
        obtain ⟨rfl, b⟩ := p9
        exact ⟨Or.inl rfl, F9, rfl, b⟩
      | inr q =>
        rw [e] at p9
        obtain ⟨rfl, B9, L9, x9⟩ := p9
        exact ⟨Or.inr rfl, F9, rfl, vy_cr_x ho hpi C4 f9 B9 x9, L9, (vx_fr_J f9 (vy_rH ho hpi 0).2.2.2.1).trans a4, B3⟩
    refine ⟨fun q2 => REL (fun t => q2 t.1), fun q2 => ?_⟩
    have hi1 := vy_nx ok hi (by omega)
    rw [C4.1.2.1, show ((i : Int) + 1).toNat = i + 1 by omega, (vy_kc C4.1.1 hi1).1]
    refine ⟨by omega, fun q40 => ⟨o, C4.1.2.2.2.1, ho, ?_⟩, fun q40 => REL (fun t => q40 t.2)⟩
    have e0 : vy_li ts op i V O Pd F L at_ = (if 3 ≤ at_ then .inl (vy_p ts i)
     else match vy_am ts op false (decide (O.1 = -1)) i V O Pd F with
     | .inl p => .inl p
     | .inr q => .inr (q.1, q.2.1, q.2.2.2.2.2.2.1, q.2.2.2.2.2.2.2, vy_la L 14 q.2.2.2.2.2.1 (vy_p ts i) q.2.2.2.1, at_ + 1)) := by
      unfold vy_li
      rw [if_neg q33, if_pos ⟨q2, q40⟩]
    rw [a4]
    refine ⟨fun q3 h15 e15 T15 => ?_, fun q3 => vc_ref T5 ok C4.1 (fun h1 f1 b1 => ?_)⟩
    · rw [if_neg (by omega)] at e0
      have f15 : vx_fr (fun a k => a = o ∧ k = 7) h7 h15 := vx_fr_sJ vx_fr_refl e15 ⟨rfl, rfl⟩
      refine vc_lit (d := d) (rl := 14) (any := decide (O.1 = -1)) (aa := at_ + 1) T15 ok ho hpi (vy_cr_7 ho hpi C4 f15) (vy_cl_7 ho L4 f15) hL hx (Or.inl rfl) (by simp) ((vx_fr_J f15 (fun t => (vy_rG ho hpi).2.2.2.2.2.2.2.2.1 t.1)).trans p4) (by rw [e15, vx_J_eq (by omega)]; rfl) (by omega) (vx_fr_trans F4 (vx_fr_mono f15 (fun a k q => vy_Sy_7 q))) (fun p g1 e1 f1 b1 => ?_) (fun q g1 e1 f1 c1 => ?_)
      · rw [e0, e1]
        exact ⟨f1, rfl, b1⟩
      · rw [e0, e1]
        exact ⟨f1, rfl, c1⟩
    · rw [e0, if_pos (by omega)]
      exact ⟨vx_fr_trans F4 (vx_fr_mono f1 (fun a k q => vy_Sy_b q)), rfl, b1⟩
theorem vc_154_4 {h0 : ve_H} {R : vy_R6} {P : Int → ve_H → Prop} (ok : vy_ok ts) (F0 : ∀ p g, R = .inl p → vx_fr (vy_Sy o pi op) h0 g → vy_bad p g → P 0 g) (G0 : ∀ q g, R = .inr q → vx_fr (vy_Sy o pi op) h0 g → vy_cs g ts o pi op q.1 q.2.1 O q.2.2.1 q.2.2.2.1 q.2.2.2.2.1 q.2.2.2.2.2 → P 1 g) :
    ∀ (m i : Nat) (V Pd : vy_V) (F : vy_F) (L : vy_L) (at_ : Nat) (g : ve_H) (y : Int), m = 6 - L.1 → L.1 ≤ 6 → y = L.1 → vx_T 1 625 g → vx_fr (vy_Sy o pi op) h0 g → vy_cs g ts o pi op i V O Pd F L at_ → R = vy_bo ts op O m i V Pd F L at_ → vx_W (d + 5) 154 4 [some (.ref 7), some (.int (vx_i 1)), some (.int (vx_i y))] [] g (vx_RI P) := by
  intro m
  induction m with
  | zero =>
    intro i V Pd F L at_ g y hm hL hy hT hf B hR
    have hp := ok.2.2.2.1 i B.1.1.2.2.1
    refine vg_154_4 hT ⟨by omega, fun _ => ⟨by omega, fun q => absurd q (by omega), fun _ => vx_CI_mono (vc_163 hT ok B.1.1) ?_⟩, fun q => absurd q (by omega)⟩
    rintro r5 h5 _ ⟨rfl, rfl⟩ _
    refine vx_CI_mono (vc_166 hT (by omega)) ?_
    rintro r6 h6 _ ⟨rfl, f6, b6⟩ _
    exact ⟨fun _ => F0 _ h6 hR (vx_fr_trans hf (vx_fr_mono f6 (fun a k q => vy_Sy_b q))) b6, fun q => absurd rfl q⟩
  | succ m ih =>
    intro i V Pd F L at_ g y hm hL hy hT hf B hR
    have hpi := B.1.2.2.2.2.1.1
    have ho := B.1.1.2.2.2.2.1
    refine vg_154_4 hT ⟨by omega, fun q => absurd q (by omega), fun _ => ⟨by omega, fun q => absurd q (by omega), fun _ => vx_CI_mono (vc_155 (d := d) hT ok B (by omega) hy) ?_⟩⟩
    rintro r10 h10 _ ⟨f10, p10⟩ T10
    have F10 := vx_fr_trans hf f10
    have hR : R = match vy_li ts op i V O Pd F L at_ with
      | .inl p => .inl p
      | .inr q => if vy_k ts q.1 = 44 then vy_bo ts op O m (q.1 + 1) q.2.1 q.2.2.1 q.2.2.2.1 q.2.2.2.2.1 q.2.2.2.2.2 else .inr q := hR
    cases e : vy_li ts op i V O Pd F L at_ with
    | inl p =>
      rw [e] at p10 hR
      obtain ⟨rfl, b⟩ := p10
      exact ⟨fun t => absurd rfl t, fun _ => F0 p h10 hR F10 b⟩
    | inr q =>
      rw [e] at p10 hR
      obtain ⟨rfl, C10⟩ := p10
      have hR : R = if vy_k ts q.1 = 44 then vy_bo ts op O m (q.1 + 1) q.2.1 q.2.2.1 q.2.2.2.1 q.2.2.2.2.1 q.2.2.2.2.2 else .inr q := hR
      have hLn := vy_li_L e
      refine ⟨fun _ => vx_CI_mono (vc_164 T10 ok C10.1.1 (by omega) (by omega)) ?_, fun t => absurd t (by omega)⟩
      rintro r12 h12 _ (⟨rfl, q44, e12, B12⟩ | ⟨rfl, q44, rfl⟩) T12
      · rw [if_pos q44] at hR
        have f12 : vx_fr (fun a k => a = 7 ∧ k = 9) h10 h12 := vx_fr_sJ vx_fr_refl e12 ⟨rfl, rfl⟩
        obtain ⟨⟨c1, c2, c3, c4, c5, c6⟩, c7, c8, c9⟩ := C10
        exact ih (q.1 + 1) q.2.1 q.2.2.1 q.2.2.2.1 q.2.2.2.2.1 q.2.2.2.2.2 h12 (y + 1) (by omega) (by omega) (by omega) T12 (vx_fr_trans F10 (vx_fr_mono f12 (fun a k q => vy_Sy_9 q))) ⟨vy_cr_9 ho hpi ⟨c1, c2, c3, c4, c5, c6⟩ f12 B12, vy_cl_9 ho c7 f12, (vx_fr_J f12 (fun t => absurd t.2 (by decide))).trans c8, c9⟩ hR
      · rw [if_neg q44] at hR
        have K := G0 q h12 hR F10 C10
        exact vg_154_4 T12 ⟨by omega, fun _ => ⟨by omega, fun _ => K, fun t => absurd rfl t⟩, fun _ => ⟨by omega, fun _ => K, fun t => absurd rfl t⟩⟩
theorem vc_154 (hT : vx_T 1 625 h) (ok : vy_ok ts) (B : vy_cs h ts o pi op i V O Pd F L at_) (hL : L.1 = 0) : vx_CI (d + 5) 154 [.ref 7] h (vy_lP ts o pi op O (vy_bo ts op O 6 i V Pd F L at_) h) := by
  refine vg_154 hT (vc_154_4 (d := d) (h0 := h) (R := vy_bo ts op O 6 i V Pd F L at_) ok (fun p g e f b => ?_) (fun q g e f c => ?_) 6 i V Pd F L at_ h 0 (by omega) (by omega) (by omega) hT vx_fr_refl B rfl)
  · rw [e]; exact ⟨f, rfl, b⟩
  · rw [e]; exact ⟨f, rfl, c⟩
end
