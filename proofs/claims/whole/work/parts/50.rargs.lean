/-! Reading arguments: the reference -/
abbrev vy_Sq (cl a k : Nat) : Prop := (a = 625 ∧ (k = 3 ∨ k = 4 ∨ k = 10 ∨ k = 46 ∨ k = 47 ∨ k = 50 ∨ k = 53 ∨ k = 54 ∨ k = 55 ∨ k = 56)) ∨ (a = 642 ∧ k = cl) ∨ a = 655 ∨ a = 656 ∨ a = 658 ∨ a = 659
section
variable {d i cl : Nat} {h : ve_H} {ts : vy_T} {V : vy_V} {O : vy_O} {x y : Int}
theorem vy_ro_fr {h1 : ve_H} {S : Nat → Nat → Prop} (c : vy_ro h O) (f : vx_fr S h h1) (hs : ¬ S 625 54 ∧ ¬ S 625 55 ∧ ¬ S 625 56) : vy_ro h1 O :=
  ⟨(vx_fr_J f hs.1).trans c.1, fun q => ⟨(vx_fr_J f hs.2.1).trans (c.2.1 q).1, (vx_fr_J f hs.2.2).trans (c.2.1 q).2⟩, c.2.2⟩
theorem vy_ra_fr {h1 : ve_H} {S : Nat → Nat → Prop} {A : Nat → Int} {m : Nat} (c : vy_ra h A m) (f : vx_fr S h h1) (hs : ∀ k, ¬ S 658 k ∧ ¬ S 659 k) : vy_ra h1 A m := by
  intro k hk
  rw [vx_fr_J f (hs k).1, vx_fr_K f (hs k).2]
  exact c k hk
/-- words among the reference's tokens -/
theorem vy_wrd {kd ct kr cr vr : Int} (R : vt_rt kd ct kr cr vr) : (kr = 5 ∧ 1 < cr) ↔ (6 ≤ kd ∧ kd ≤ 9) := by
  obtain ⟨a0, a1, a2, a3, a4, a5, a6, a7, a8, a9⟩ := R
  by_cases z0 : kd = 0
  · have := a0 z0; omega
  by_cases z1 : kd = 1
  · have := a1 z1; omega
  by_cases z2 : kd = 2
  · have := (a2 z2).1; omega
  by_cases z3 : kd = 3
  · have := (a3 z3).1; omega
  by_cases z4 : kd = 4
  · have := (a4 z4).1; omega
  by_cases z5 : kd ≤ 9
  · have := a5 (by omega); omega
  by_cases z6 : kd ≤ 13
  · have := (a6 (by omega)).1; omega
  · have := (a7 (by omega)).1; omega
theorem vy_k3 {kd ct kr cr vr : Int} (R : vt_rt kd ct kr cr vr) : kr = 2 ↔ kd = 3 := by
  obtain ⟨a0, a1, a2, a3, a4, a5, a6, a7, a8, a9⟩ := R
  by_cases z0 : kd = 0
  · have := a0 z0; omega
  by_cases z1 : kd = 1
  · have := a1 z1; omega
  by_cases z2 : kd = 2
  · have := (a2 z2).1; omega
  by_cases z3 : kd = 3
  · have := (a3 z3).1; omega
  by_cases z4 : kd = 4
  · have := (a4 z4).1; omega
  by_cases z5 : kd ≤ 9
  · have := a5 (by omega); omega
  by_cases z6 : kd ≤ 13
  · have := (a6 (by omega)).1; omega
  · have := (a7 (by omega)).1; omega
theorem vy_k2 {kd ct kr cr vr : Int} (R : vt_rt kd ct kr cr vr) : kr = 1 ↔ kd = 2 := by
  obtain ⟨a0, a1, a2, a3, a4, a5, a6, a7, a8, a9⟩ := R
  by_cases z0 : kd = 0
  · have := a0 z0; omega
  by_cases z1 : kd = 1
  · have := a1 z1; omega
  by_cases z2 : kd = 2
  · have := (a2 z2).1; omega
  by_cases z3 : kd = 3
  · have := (a3 z3).1; omega
  by_cases z4 : kd = 4
  · have := (a4 z4).1; omega
  by_cases z5 : kd ≤ 9
  · have := a5 (by omega); omega
  by_cases z6 : kd ≤ 13
  · have := (a6 (by omega)).1; omega
  · have := (a7 (by omega)).1; omega
/-- a term with _ is one without, but at a _ -/
theorem vy_tm_any {any : Bool} (hk : ¬ (any = true ∧ vy_k ts i = 95)) : vy_tm ts any i V = vy_tm ts false i V := by
  unfold vy_tm
  rw [if_neg hk, if_neg (show ¬ (false = true ∧ vy_k ts i = 95) by simp)]
/-- a term's variables: those before, and this one if it is new -/
theorem vy_tm_V {any : Bool} {q : Int × Nat × vy_V} (hV : V.1 ≤ 8) (e : vy_tm ts any i V = .inr q) : (q.2.2 = V ∨ (vy_k ts i = 3 ∧ q.2.2 = vy_va V (vy_v ts i) (vy_p ts i))) ∧ ((144115188075855872 ≤ q.1 ∧ q.1 < 144115188075855880 ∧ vy_k ts i ≠ 45 ∧ vy_k ts i ≠ 4 ∧ vy_k ts i ≠ 2 ∧ vy_k ts i ≠ 95) → vy_k ts i = 3) := by
  unfold vy_tm at e
  split at e
  · rename_i q1
    split at e
    · cases e
      exact ⟨Or.inl rfl, fun t => absurd q1 t.2.2.1⟩
    · cases e
  split at e
  · rename_i q1 q2
    cases e
    exact ⟨Or.inl rfl, fun t => by omega⟩
  split at e
  · rename_i q1 q2 q3
    split at e
    · cases e
      exact ⟨Or.inl rfl, fun _ => q3⟩
    split at e
    · cases e
      exact ⟨Or.inr ⟨q3, rfl⟩, fun _ => q3⟩
    · cases e
  split at e
  · rename_i q1 q2 q3 q4
    cases e
    exact ⟨Or.inl rfl, fun t => absurd q4.2 t.2.2.2.2.2⟩
  · cases e
/-- what holds of the first free place, while a head is read -/
def vy_fi (h : ve_H) (ts : vy_T) (i : Nat) (V : vy_V) (O : vy_O) : Prop := vx_J h 625 53 = vy_ff V O ∧ (O.1 ≠ -1 → 1 ≤ V.1 ∧ 0 ≤ O.2.2) ∧ ∀ v, v < V.1 → 0 ≤ V.2.2 v ∧ V.2.2 v < vy_p ts i
theorem vy_ff_none (hO : O.1 ≠ -1 → 1 ≤ V.1 ∧ 0 ≤ O.2.2) (hV : ∀ v, v < V.1 → 0 ≤ V.2.2 v) : vy_ff V O = -1 ↔ V.1 = 0 := by
  unfold vy_ff
  by_cases c : O.1 ≠ -1 ∧ (V.1 = 0 ∨ O.2.2 < V.2.2 0)
  · rw [if_pos c]
    have := hO c.1
    omega
  · rw [if_neg c]
    by_cases c2 : V.1 = 0
    · rw [if_pos c2]; omega
    · rw [if_neg c2]
      have := hV 0 (by omega)
      omega
theorem vc_42_317 {hd any : Bool} {R : vy_R5} {P : Int → ve_H → Prop} {h0 : ve_H} {v1 v2 v3 v4 : Int} {m j : Nat} {W : vy_V} {Q : vy_O} {A : Nat → Int} {t : Int} (ok : vy_ok ts) (hT : vx_T 625 672 h) (hm : m < 4) (hf : vx_fr (vy_Sq cl) h0 h) (hx : vy_rx h0 h) (B : vy_rb h ts cl j W) (h50 : vx_J h 625 50 = 3 - (m : Int)) (C : vy_ro h Q) (hA : vy_ra h A (3 - m)) (ht : vy_tr t (vx_J h 625 46) (vx_K h 625 47)) (hff : hd = true → vy_fi h ts j W Q)
    (N : ∀ g, vx_T 625 672 g → vy_k ts j = 44 → vx_fr (vy_Sq cl) h0 g → vy_rx h0 g → vy_rb g ts cl (j + 1) W → vx_J g 625 50 = 4 - (m : Int) → vy_ro g Q → vy_ra g (vy_set A (3 - m) t) (4 - m) → (hd = true → vy_fi g ts (j + 1) W Q) → vx_W (d + 1) 42 86 [some (.ref 625), some (.int (vx_i v1)), some (.int (vx_i v2)), some (.int (vx_i v3)), some (.int (vx_i v4))] [] g (vx_RI P))
    (G : ∀ g, vx_T 625 672 g → vy_k ts j ≠ 44 → vx_fr (vy_Sq cl) h0 g → vy_rx h0 g → vy_rb g ts cl j W → vx_J g 625 50 = 4 - (m : Int) → vy_ro g Q → vy_ra g (vy_set A (3 - m) t) (4 - m) → (hd = true → vy_fi g ts j W Q) → vx_CI d 36 [.ref 625, .int (vx_i 41)] g (fun r8 h8 => vx_T 625 672 h8 → ((r8 ≠ 0 → (0 ≤ v3 ∧ v3 < 602) ∧ (0 ≤ v3 ∧ v3 < 602) ∧ vx_CI d 40 [.ref 625, .long (vx_l (vx_K h8 630 v3.toNat)), .int (vx_i (vx_J h8 625 50)), .int (vx_i (vx_J h8 628 v3.toNat)), .int (vx_i (vx_J h8 625 49))] h8 (fun r12 h12 => vx_T 625 672 h12 → (∀ h13, h13 = vx_sJ h12 625 57 r12 → vx_T 625 672 h13 → P 1 h13))) ∧ (r8 = 0 → P 0 h8)))) (hd1 : 1 ≤ d) :
    vx_W (d + 1) 42 317 [some (.ref 625), some (.int (vx_i v1)), some (.int (vx_i v2)), some (.int (vx_i v3)), some (.int (vx_i v4))] [] h (vx_RI P) := by
  obtain ⟨d, rfl⟩ : ∃ e, d = e + 1 := ⟨d - 1, by omega⟩
  have hl := ok.2.1
  have hj := B.2.2.1
  refine vg_42_317 hT ?_
  rw [h50]
  refine ⟨by omega, fun h2 e2 T2 => ?_⟩
  rw [show vx_J h2 625 50 = 3 - (m : Int) by rw [e2, vx_J_ne (by omega), h50], show vx_K h2 625 47 = vx_K h 625 47 by rw [e2, vx_K_sJ]]
  refine ⟨by omega, fun h4 e4 T4 h5 e5 T5 => ?_⟩
  rw [show vx_J h4 625 50 = 3 - (m : Int) by rw [e4, vx_J_sK, e2, vx_J_ne (by omega), h50]] at e5
  rw [show (3 - (m : Int)).toNat = 3 - m by omega] at e2 e4
  have f5 : vx_fr (fun a k => a = 658 ∨ a = 659 ∨ (a = 625 ∧ k = 50)) h h5 := vx_fr_sJ (vx_fr_sK (vx_fr_sJ vx_fr_refl e2 (by omega)) e4 (by omega)) e5 (by omega)
  have F5 : vx_fr (vy_Sq cl) h0 h5 := vx_fr_trans hf (vx_fr_mono f5 (by intro a k q; omega))
  have B5 := vy_rb_fr B f5 (fun k => by omega) (by omega) (by omega)
  have x5 : vy_rx h0 h5 := ⟨(vx_fr_J f5 (by omega)).trans hx.1, (vx_fr_J f5 (by omega)).trans hx.2⟩
  have C5 := vy_ro_fr C f5 (by omega)
  have n5 : vx_J h5 625 50 = 4 - (m : Int) := by rw [e5, vx_J_eq (by omega)]; omega
  have k46 : vx_rI (vx_J h 625 46) := vx_rI_J _ _ _
  have k47 : vx_rL (vx_K h 625 47) := vx_rL_K _ _ _
  have A5 : vy_ra h5 (vy_set A (3 - m) t) (4 - m) := by
    intro k hk
    rw [e5, vx_J_ne (by omega), vx_K_sJ, e4, vx_J_sK, vx_K_sK k47, e2, vx_J_sJ k46, vx_K_sJ]
    by_cases q : k = 3 - m
    · rw [if_pos ⟨rfl, q⟩, if_pos ⟨rfl, q⟩, q, vy_set_eq]
      exact ht
    · rw [if_neg (by omega), if_neg (by omega), vy_set_lt q]
      exact hA k (by omega)
  have ff5 : hd = true → vy_fi h5 ts j W Q := fun t => ⟨(vx_fr_J f5 (by omega)).trans (hff t).1, (hff t).2⟩
  refine vx_CI_mono (vc_35 (s := 44) T5 ok B5 (by omega) rfl) ?_
  rintro r6 h6 _ (⟨rfl, q44, e6, B6⟩ | ⟨rfl, q44, rfl⟩) T6
  · have f6 : vx_fr (fun a k => a = 625 ∧ k = 10) h5 h6 := vx_fr_sJ vx_fr_refl e6 ⟨rfl, rfl⟩
    refine ⟨fun _ => N h6 T6 q44 (vx_fr_trans F5 (vx_fr_mono f6 (by intro a k q; omega))) ⟨(vx_fr_J f6 (by omega)).trans x5.1, (vx_fr_J f6 (by omega)).trans x5.2⟩ B6 ((vx_fr_J f6 (by omega)).trans n5) (vy_ro_fr C5 f6 (by omega)) (vy_ra_fr A5 f6 (fun k => by omega)) (fun t => ⟨(vx_fr_J f6 (by omega)).trans (ff5 t).1, (ff5 t).2.1, fun v hv => ⟨((ff5 t).2.2 v hv).1, ?_⟩⟩), fun q => absurd q (by omega)⟩
    have a1 := ((ff5 t).2.2 v hv).2
    have a2 := ok.2.2.2.2.1 j (j + 1) (by omega) B6.2.2.1
    omega
  · exact ⟨fun q => absurd rfl q, fun _ => G h6 T6 q44 F5 x5 B5 n5 C5 A5 ff5⟩
end
