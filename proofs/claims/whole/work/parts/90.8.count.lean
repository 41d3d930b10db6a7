/-! How many rows a predicate has: the reference -/
section
variable {d cnt : Nat} {h : ve_H} {Pd : vy_V} {rr : Nat → Nat → Int} {cm : Nat → Int} {x : Int}
theorem vc_96 (hT : vx_T 625 672 h) (j31 : vx_J h 625 31 = 1) (T : vn_T h Pd cnt rr cm) (c200 : cnt ≤ 200) (hx : vx_rI x) : vx_CI d 96 [.ref 625, .int (vx_i x)] h (fun r h1 => h1 = h ∧ r = (vr_n (fun i => decide (rr i 0 = x)) cnt : Nat)) := by
  have LOOP : ∀ (m i : Nat) (z v : Int), m = cnt - i → i ≤ cnt → z = i → v = (vr_n (fun i => decide (rr i 0 = x)) i : Nat) → vx_W d 96 4 [some (.ref 625), some (.int (vx_i x)), some (.int (vx_i v)), some (.int (vx_i z))] [] h (vx_RI (fun r h1 => h1 = h ∧ r = (vr_n (fun i => decide (rr i 0 = x)) cnt : Nat))) := by
    intro m
    induction m with
    | zero =>
      intro i z v hm hi hz hv
      have le := vr_n_le (fun i => decide (rr i 0 = x)) i
      have ei : i = cnt := by omega
      subst ei
      refine vg_96_4 hT ?_
      rw [T.1]
      exact ⟨by omega, fun _ => ⟨by omega, rfl, hv⟩, fun q => absurd q (by omega)⟩
    | succ m ih =>
      intro i z v hm hi hz hv
      have le := vr_n_le (fun i => decide (rr i 0 = x)) i
      have es : vr_n (fun i => decide (rr i 0 = x)) (i + 1) = vr_n (fun i => decide (rr i 0 = x)) i + (bif decide (rr i 0 = x) then 1 else 0) := rfl
      refine vg_96_4 hT ?_
      rw [T.1, j31, show z.toNat = i by omega, (T.2.1 i (by omega)).1.1]
      refine ⟨by omega, fun q => absurd q (by omega), fun _ => ⟨fun q => absurd rfl q, fun _ => ⟨by omega, hx, fun q => ih (i + 1) (z + 1) (v + 0) (by omega) (by omega) (by omega) ?_, fun q => ih (i + 1) (z + 1) (v + 1) (by omega) (by omega) (by omega) ?_⟩⟩⟩
      · rw [es, decide_eq_false q]
        show v + 0 = ((vr_n (fun i => decide (rr i 0 = x)) i + 0 : Nat) : Int)
        omega
      · rw [es, decide_eq_true q]
        show v + 1 = ((vr_n (fun i => decide (rr i 0 = x)) i + 1 : Nat) : Int)
        omega
  exact vg_96 hT (LOOP cnt 0 0 0 rfl (by omega) rfl rfl)
theorem vc_96n (hT : vx_T 625 672 h) (j31 : vx_J h 625 31 ≠ 1) (hx : vx_rI x) : vx_CI d 96 [.ref 625, .int (vx_i x)] h (fun r h1 => h1 = h ∧ r = 0) :=
  vg_96 hT (vg_96_4 hT ⟨by decide, fun _ => ⟨by decide, rfl, rfl⟩, fun _ => ⟨fun _ => ⟨by decide, rfl, rfl⟩, fun q => absurd q j31⟩⟩)
end
