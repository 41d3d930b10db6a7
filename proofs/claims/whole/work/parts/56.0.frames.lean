/-! More frames, each told once -/
section
variable {i o pi k0 a k : Nat} {h h1 : ve_H} {ts : vy_T} {V Pd : vy_V} {O : vy_O} {F : vy_F} {L : vy_L} {op : Bool}
abbrev vy_Sy (o pi : Nat) (op : Bool) (a k : Nat) : Prop := vy_Sm o pi op a k ∨ vy_Sl o a k ∨ a = vx_r o 10 ∨ (a = o ∧ k = 7)
theorem vy_Sy_m (q : vy_Sm o pi op a k) : vy_Sy o pi op a k := Or.inl q
theorem vy_Sy_l (q : vy_Sl o a k) : vy_Sy o pi op a k := Or.inr (Or.inl q)
theorem vy_Sy_p (q : a = vx_r o 10) : vy_Sy o pi op a k := Or.inr (Or.inr (Or.inl q))
theorem vy_Sy_7 (q : a = o ∧ k = 7) : vy_Sy o pi op a k := Or.inr (Or.inr (Or.inr q))
theorem vy_Sy_9 (q : a = 7 ∧ k = 9) : vy_Sy o pi op a k := Or.inl (Or.inl (by omega))
theorem vy_Sy_b (q : a = 7 ∧ (k = 11 ∨ k = 12)) : vy_Sy o pi op a k := Or.inl (Or.inl (by omega))
theorem vy_Sy_x (q : vy_Sx o a k) : vy_Sy o pi op a k := by
  rcases q with q | q | q | q | q | q
  · exact Or.inl (Or.inl (Or.inl q))
  · exact Or.inl (Or.inl (Or.inr (Or.inl q)))
  · exact Or.inl (Or.inl (Or.inr (Or.inr (Or.inl q))))
  · exact Or.inl (Or.inl (Or.inr (Or.inr (Or.inr (Or.inl q)))))
  · exact Or.inl (Or.inl (by omega))
  · exact Or.inr (Or.inl q)
/-- a rule's rows lie apart from what an atom's reading touches -/
theorem vy_rE (ho : vx_o 1 625 7 o) (hp : vx_o 1 625 5 pi) : ∀ k, ¬ vy_Sm o pi op o 6 ∧ ¬ vy_Sm o pi op (vx_r o 8) k ∧ ¬ vy_Sm o pi op (vx_r o 9) k ∧ ¬ vy_Sm o pi op (vx_r o 10) k ∧ ¬ vy_Sm o pi op (vx_r o 11) k ∧ ¬ vy_Sm o pi op o 7 := by
  have r := vx_ro ho
  have p := vx_po hp
  intro k
  rw [r.2.1, r.2.2.1, r.2.2.2.1, r.2.2.2.2.1]
  have q := r.2.2.2.2.2.2.2.2
  have p0 := p.1
  have p1 := p.2.1
  have p9 := p.2.2.2.2.2.2
  clear r p
  rcases p9 with rfl | rfl <;> (refine ⟨?_, ?_, ?_, ?_, ?_, ?_⟩ <;> (intro t; rcases t with t | t | ⟨-, t⟩ <;> omega))
theorem vy_cl_m (ho : vx_o 1 625 7 o) (hp : vx_o 1 625 5 pi) (C : vy_cl h o L) (f : vx_fr (vy_Sm o pi op) h h1) : vy_cl h1 o L :=
  vy_cl_fr C f ⟨(vy_rE ho hp 0).1, fun k => ⟨(vy_rE ho hp k).2.1, (vy_rE ho hp k).2.2.1, (vy_rE ho hp k).2.2.2.1, (vy_rE ho hp k).2.2.2.2.1⟩⟩
theorem vy_cr_fr {S : Nat → Nat → Prop} (B : vy_cr h ts o pi op i V O Pd F) (f : vx_fr S h h1) (hs : ∀ k, ¬ S 4 k ∧ ¬ S 5 k ∧ ¬ S 6 k ∧ ¬ S 19 k ∧ ¬ S 20 k ∧ ¬ S 7 k ∧ ¬ S (vx_r pi 0) k ∧ ¬ S (vx_r pi 1) k) (ho : ¬ S o 5 ∧ ¬ S o 2 ∧ ¬ S o 3 ∧ ¬ S o 4 ∧ ¬ S pi 6) : vy_cr h1 ts o pi op i V O Pd F := by
  obtain ⟨Bb, Bo, B6, B7, Bp, Bf⟩ := B
  exact ⟨vy_cb_fr Bb f (fun k => ⟨(hs k).1, (hs k).2.1, (hs k).2.2.1, (hs k).2.2.2.1, (hs k).2.2.2.2.1⟩) (hs _).2.2.2.2.2.1 (hs _).2.2.2.2.2.1 ho.1, vy_co_fr Bo f ⟨ho.2.1, ho.2.2.1, ho.2.2.2.1⟩, (vx_fr_R f (hs _).2.2.2.2.2.1).trans B6, (vx_fr_J f (hs _).2.2.2.2.2.1).trans B7, vy_cp_fr Bp f ⟨ho.2.2.2.2, fun k => ⟨(hs k).2.2.2.2.2.2.1, (hs k).2.2.2.2.2.2.2⟩⟩, (vx_fr_J f (hs _).2.2.2.2.2.1).trans Bf.1, (vx_fr_J f (hs _).2.2.2.2.2.1).trans Bf.2⟩
/-- a reader and its program lie apart from where a literal is put -/
theorem vy_rF (ho : vx_o 1 625 7 o) (hp : vx_o 1 625 5 pi) : (∀ k, ¬ vy_Sl o 4 k ∧ ¬ vy_Sl o 5 k ∧ ¬ vy_Sl o 6 k ∧ ¬ vy_Sl o 19 k ∧ ¬ vy_Sl o 20 k ∧ ¬ vy_Sl o 7 k ∧ ¬ vy_Sl o (vx_r pi 0) k ∧ ¬ vy_Sl o (vx_r pi 1) k) ∧ (¬ vy_Sl o o 5 ∧ ¬ vy_Sl o o 2 ∧ ¬ vy_Sl o o 3 ∧ ¬ vy_Sl o o 4 ∧ ¬ vy_Sl o pi 6) ∧ ¬ vy_Sl o o 7 := by
  have r := vx_ro ho
  have p := vx_po hp
  rw [p.1, p.2.1]
  have r8 := r.2.1
  have r9 := r.2.2.1
  have r11 := r.2.2.2.2.1
  have q := r.2.2.2.2.2.2.2.2
  have p9 := p.2.2.2.2.2.2
  clear r p
  rcases p9 with rfl | rfl <;> (refine ⟨fun k => ⟨?_, ?_, ?_, ?_, ?_, ?_, ?_, ?_⟩, ⟨?_, ?_, ?_, ?_, ?_⟩, ?_⟩ <;> (intro t; rcases t with t | t | t | t <;> omega))
theorem vy_rG (ho : vx_o 1 625 7 o) (hp : vx_o 1 625 5 pi) : vx_r o 10 ≠ 4 ∧ vx_r o 10 ≠ 5 ∧ vx_r o 10 ≠ 6 ∧ vx_r o 10 ≠ 19 ∧ vx_r o 10 ≠ 20 ∧ vx_r o 10 ≠ 7 ∧ vx_r o 10 ≠ vx_r pi 0 ∧ vx_r o 10 ≠ vx_r pi 1 ∧ vx_r o 10 ≠ o ∧ vx_r o 10 ≠ pi ∧ vx_r o 10 ≠ vx_r o 8 ∧ vx_r o 10 ≠ vx_r o 9 ∧ vx_r o 10 ≠ vx_r o 11 ∧ o ≠ 4 ∧ o ≠ 5 ∧ o ≠ 6 ∧ o ≠ 7 ∧ o ≠ 19 ∧ o ≠ 20 ∧ o ≠ vx_r pi 0 ∧ o ≠ vx_r pi 1 ∧ o ≠ pi ∧ pi ≠ 7 ∧ vx_r pi 0 ≠ 7 ∧ vx_r pi 1 ≠ 7 := by
  have r := vx_ro ho
  have p := vx_po hp
  rw [p.1, p.2.1, r.2.1, r.2.2.1, r.2.2.2.1, r.2.2.2.2.1]
  have q := r.2.2.2.2.2.2.2.2
  have p9 := p.2.2.2.2.2.2
  clear r p
  rcases p9 with rfl | rfl <;> (refine ⟨?_, ?_, ?_, ?_, ?_, ?_, ?_, ?_, ?_, ?_, ?_, ?_, ?_, ?_, ?_, ?_, ?_, ?_, ?_, ?_, ?_, ?_, ?_, ?_, ?_⟩ <;> omega)
theorem vy_cr_l (ho : vx_o 1 625 7 o) (hp : vx_o 1 625 5 pi) (B : vy_cr h ts o pi op i V O Pd F) (f : vx_fr (vy_Sl o) h h1) : vy_cr h1 ts o pi op i V O Pd F := vy_cr_fr B f (vy_rF ho hp).1 (vy_rF ho hp).2.1
theorem vy_cr_p (ho : vx_o 1 625 7 o) (hp : vx_o 1 625 5 pi) (B : vy_cr h ts o pi op i V O Pd F) (f : vx_fr (fun a _ => a = vx_r o 10) h h1) : vy_cr h1 ts o pi op i V O Pd F := by
  obtain ⟨g1, g2, g3, g4, g5, g6, g7, g8, g9, g10, -⟩ := vy_rG ho hp
  exact vy_cr_fr B f (fun _ => ⟨g1.symm, g2.symm, g3.symm, g4.symm, g5.symm, g6.symm, g7.symm, g8.symm⟩) ⟨g9.symm, g9.symm, g9.symm, g9.symm, g10.symm⟩
theorem vy_cr_7 (ho : vx_o 1 625 7 o) (hp : vx_o 1 625 5 pi) (B : vy_cr h ts o pi op i V O Pd F) (f : vx_fr (fun a k => a = o ∧ k = 7) h h1) : vy_cr h1 ts o pi op i V O Pd F := by
  obtain ⟨-, -, -, -, -, -, -, -, -, -, -, -, -, g1, g2, g3, g4, g5, g6, g7, g8, g9, -⟩ := vy_rG ho hp
  exact vy_cr_fr B f (fun _ => ⟨fun t => g1 t.1.symm, fun t => g2 t.1.symm, fun t => g3 t.1.symm, fun t => g5 t.1.symm, fun t => g6 t.1.symm, fun t => g4 t.1.symm, fun t => g7 t.1.symm, fun t => g8 t.1.symm⟩) ⟨by omega, by omega, by omega, by omega, fun t => g9 t.1.symm⟩
theorem vy_cr_9 {j : Nat} (ho : vx_o 1 625 7 o) (hp : vx_o 1 625 5 pi) (B : vy_cr h ts o pi op i V O Pd F) (f : vx_fr (fun a k => a = 7 ∧ k = 9) h h1) (B1 : vy_cb h1 ts o j V) : vy_cr h1 ts o pi op j V O Pd F := by
  obtain ⟨-, -, -, -, -, -, -, -, -, -, -, -, -, g1, g2, g3, g4, g5, g6, g7, g8, g9, g10, g11, g12⟩ := vy_rG ho hp
  exact ⟨B1, vy_co_fr B.2.1 f ⟨fun t => g4 t.1, fun t => g4 t.1, fun t => g4 t.1⟩, (vx_fr_R f (by omega)).trans B.2.2.1, (vx_fr_J f (by omega)).trans B.2.2.2.1, vy_cp_fr B.2.2.2.2.1 f ⟨fun t => g10 t.1, fun k => ⟨fun t => g11 t.1, fun t => g12 t.1⟩⟩, (vx_fr_J f (by omega)).trans B.2.2.2.2.2.1, (vx_fr_J f (by omega)).trans B.2.2.2.2.2.2⟩
theorem vy_rH (ho : vx_o 1 625 7 o) (hp : vx_o 1 625 5 pi) : (∀ k, ¬ vy_Sx o o 2 ∧ ¬ vy_Sx o o 3 ∧ ¬ vy_Sx o o 4 ∧ ¬ vy_Sx o o 7 ∧ ¬ vy_Sx o pi 6 ∧ ¬ vy_Sx o (vx_r pi 0) k ∧ ¬ vy_Sx o (vx_r pi 1) k) := by
  have r := vx_ro ho
  have p := vx_po hp
  rw [p.1, p.2.1]
  have r8 := r.2.1
  have r9 := r.2.2.1
  have r11 := r.2.2.2.2.1
  have q := r.2.2.2.2.2.2.2.2
  have p9 := p.2.2.2.2.2.2
  clear r p
  intro k
  rcases p9 with rfl | rfl <;> (refine ⟨?_, ?_, ?_, ?_, ?_, ?_, ?_⟩ <;> (intro t; rcases t with t | t | t | t | t | t | t | t | t <;> omega))
end
