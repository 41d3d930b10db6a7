/-! Reading an atom: the reference -/
def vy_rf (h : ve_H) (F : vy_F) : Prop := vx_J h 625 3 = F.1 ∧ vx_J h 625 4 = F.2
def vy_rp (h : ve_H) (sd : Nat) (Pd : vy_V) : Prop := sd < 2 ∧ vx_J h 631 sd = Pd.1 ∧ Pd.1 ≤ 16 ∧ ∀ p, p < Pd.1 → vt_vs (vx_K h 632 (16 * sd + p)) ∧ Pd.2.1 p = 72057594037927936 + vt_lf (vx_K h 632 (16 * sd + p)) ∧ vx_J h 633 (16 * sd + p) = Pd.2.2 p
def vy_ro (h : ve_H) (O : vy_O) : Prop := vx_J h 625 54 = (if O.1 = -1 then 0 else O.1 - 4) ∧ (O.1 ≠ -1 → vx_J h 625 55 = O.2.1 ∧ vx_J h 625 56 = O.2.2) ∧ (O.1 = -1 ∨ (6 ≤ O.1 ∧ O.1 ≤ 9))
def vy_ra (h : ve_H) (A : Nat → Int) (m : Nat) : Prop := ∀ k, k < m → vy_tr (A k) (vx_J h 658 k) (vx_K h 659 k)
/-- the first place of a variable or a total -/
def vy_ff (V : vy_V) (O : vy_O) : Int := if O.1 ≠ -1 ∧ (V.1 = 0 ∨ O.2.2 < V.2.2 0) then O.2.2 else if V.1 = 0 then -1 else V.2.2 0
section
variable {d i cl sd : Nat} {h : ve_H} {ts : vy_T} {V Pd : vy_V} {O : vy_O} {F : vy_F} {x y : Int}
theorem vc_37 {k : Int} (hT : vx_T 625 672 h) (C : vy_rf h F) (h1 : F.1 ≠ 1) (hk : vx_rI k) (hx : vx_rI x) : vx_CV d 37 [.ref 625, .int (vx_i k), .int (vx_i x)] h (fun h1 => vx_fr vy_Sb h h1 ∧ vy_rf h1 (vy_nt F k x)) := by
  have P : ∀ h2 h3, h2 = vx_sJ h 625 3 k → h3 = vx_sJ h2 625 4 x → (F.1 = 0 ∨ x < F.2) → vx_fr vy_Sb h h3 ∧ vy_rf h3 (vy_nt F k x) := by
    intro h2 h3 e2 e3 hc
    unfold vy_nt
    rw [if_pos hc]
    refine ⟨vx_fr_sJ (vx_fr_sJ vx_fr_refl e2 (by omega)) e3 (by omega), ?_, ?_⟩
    · rw [e3, vx_J_ne (by omega), e2, vx_J_eq hk]
    · rw [e3, vx_J_eq hx]
  refine vg_37 hT ?_
  rw [C.1, C.2]
  refine ⟨fun q => absurd q h1, fun _ => ⟨fun q h2 e2 T2 h3 e3 T3 => P h2 h3 e2 e3 (Or.inl q), fun q => ⟨hx, fun q2 h2 e2 T2 h3 e3 T3 => P h2 h3 e2 e3 (Or.inr q2), fun q2 => ⟨vx_fr_refl, ?_⟩⟩⟩⟩
  unfold vy_nt
  rw [if_neg (by omega)]
  exact C
theorem vc_41 {u : Int} (hT : vx_T 625 672 h) (C : vy_rp h sd Pd) (h48 : vx_J h 625 48 = sd) (hu : vt_vs u) (hx : x = 72057594037927936 + vt_lf u) : vx_CI d 41 [.ref 625, .long (vx_l u)] h (fun r h1 => h1 = h ∧ ((r = 1 ∧ vy_vx Pd x < Pd.1) ∨ (r = 0 ∧ ¬ vy_vx Pd x < Pd.1))) := by
  obtain ⟨c0, c1, c2, c3⟩ := C
  refine vg_41 hT ?_
  rw [h48]
  have L : ∀ (m v : Nat) (y : Int), Pd.1 - v = m → v ≤ Pd.1 → y = 16 * (sd : Int) + v → (∀ j, j < v → Pd.2.1 j ≠ x) → vx_W d 41 8 [some (.ref 625), some (.long (vx_l u)), none, some (.int (vx_i y))] [] h (vx_RI (fun r h1 => h1 = h ∧ ((r = 1 ∧ vy_vx Pd x < Pd.1) ∨ (r = 0 ∧ ¬ vy_vx Pd x < Pd.1)))) := by
    intro m
    induction m with
    | zero =>
      intro v y hm hv hy hno
      have hvx : vy_vx Pd x = Pd.1 := vy_ix_eq (fun j hj => hno j (by omega)) (fun q => absurd q (by omega)) (Nat.le_refl _)
      refine vg_41_8 hT ?_
      rw [h48, Int.toNat_natCast, c1]
      exact ⟨by omega, by omega, by omega, fun _ => ⟨rfl, Or.inr ⟨rfl, by omega⟩⟩, fun q => absurd q (by omega)⟩
    | succ m ih =>
      intro v y hm hv hy hno
      have cv := c3 v (by omega)
      refine vg_41_8 hT ?_
      rw [h48, Int.toNat_natCast, c1, show y.toNat = 16 * sd + v by omega]
      refine ⟨by omega, by omega, by omega, fun q => absurd q (by omega), fun _ => ⟨by omega, by omega, fun q => ih (v + 1) (y + 1) (by omega) (by omega) (by omega) (fun j hj => ?_), fun q => ?_⟩⟩
      · by_cases q2 : j = v
        · rw [q2, cv.2.1, hx]
          intro e
          exact q (vt_lf_inj cv.1 hu (by omega))
        · exact hno j (by omega)
      · have hvx : vy_vx Pd x = v := vy_ix_eq hno (fun _ => by rw [cv.2.1, hx, q]) (by omega)
        exact ⟨rfl, Or.inl ⟨rfl, by omega⟩⟩
  exact L Pd.1 0 _ rfl (Nat.zero_le _) (by omega) (fun j hj => by omega)
abbrev vy_Sp (sd a k : Nat) : Prop := (a = 625 ∧ (k = 3 ∨ k = 4)) ∨ (a = 631 ∧ k = sd) ∨ ((a = 632 ∨ a = 633) ∧ 16 * sd ≤ k ∧ k < 16 * sd + 16)
theorem vc_40 {u m p z : Int} {op : Bool} (hT : vx_T 625 672 h) (C : vy_rp h sd Pd) (h48 : vx_J h 625 48 = sd) (hF : vy_rf h F) (h1 : F.1 ≠ 1) (hu : vt_vs u) (hx : x = 72057594037927936 + vt_lf u) (hm : 1 ≤ m ∧ m ≤ 4) (hp : vx_rI p) (hz : z = if op = true then 1 else 0) (room : vy_vx Pd x < Pd.1 ∨ op = false ∨ Pd.1 < 16) : vx_CI (d + 1) 40 [.ref 625, .long (vx_l u), .int (vx_i m), .int (vx_i p), .int (vx_i z)] h (fun r h1 => vx_fr (vy_Sp sd) h h1 ∧ r = (if (vy_po op Pd F x m p).1 = -1 then 0 else (vy_po op Pd F x m p).1) ∧ vy_rp h1 sd (vy_po op Pd F x m p).2.1 ∧ vy_rf h1 (vy_po op Pd F x m p).2.2) := by
  obtain ⟨c0, c1, c2, c3⟩ := id C
  refine vg_40 hT ?_
  rw [h48]
  have L : ∀ (n v : Nat) (y : Int), Pd.1 - v = n → v ≤ Pd.1 → y = 16 * (sd : Int) + v → (∀ j, j < v → Pd.2.1 j ≠ x) → vx_W (d + 1) 40 13 [some (.ref 625), some (.long (vx_l u)), none, some (.int (vx_i m)), some (.int (vx_i p)), some (.int (vx_i z)), some (.int (vx_i (16 * (sd : Int)))), some (.int (vx_i y))] [] h (vx_RI (fun r h1 => vx_fr (vy_Sp sd) h h1 ∧ r = (if (vy_po op Pd F x m p).1 = -1 then 0 else (vy_po op Pd F x m p).1) ∧ vy_rp h1 sd (vy_po op Pd F x m p).2.1 ∧ vy_rf h1 (vy_po op Pd F x m p).2.2)) := by
    intro n
    induction n with
    | zero =>
      intro v y hn hv hy hno
      have hvx : vy_vx Pd x = Pd.1 := vy_ix_eq (fun j hj => hno j (by omega)) (fun q => absurd q (by omega)) (Nat.le_refl _)
      refine vg_40_13 hT ?_
      rw [h48, Int.toNat_natCast, c1, show (16 * (sd : Int) + (Pd.1 : Int)).toNat = 16 * sd + Pd.1 by omega]
      refine ⟨by omega, by omega, by omega, fun _ => ⟨by rw [hz]; split <;> omega, fun q => ?_, fun q => ?_⟩, fun q => absurd q (by omega)⟩
      · have hop : op = true := by
          by_cases t : op = true
          · exact t
          · rw [if_neg t] at hz; exact absurd hz q
        have hlt : Pd.1 < 16 := by
          rcases room with t | t | t
          · omega
          · rw [hop] at t; cases t
          · exact t
        have e : vy_po op Pd F x m p = ((Pd.1 : Int), vy_va Pd x m, F) := by
          unfold vy_po
          rw [if_neg (by omega), if_pos hop]
        rw [e]
        refine ⟨by omega, by omega, fun h9 e9 T9 => ⟨by omega, fun h11 e11 T11 => ?_⟩⟩
        have a48 : vx_J h11 625 48 = sd := by rw [e11, vx_J_ne (by omega), e9, vx_J_sK, h48]
        have a631 : vx_J h11 631 sd = Pd.1 := by rw [e11, vx_J_ne (by omega), e9, vx_J_sK, c1]
        rw [a48, Int.toNat_natCast, a631]
        refine ⟨by omega, by omega, fun h14 e14 T14 => ⟨by omega, ?_, ?_, ?_, ?_⟩⟩
        · exact vx_fr_sJ (vx_fr_sJ (vx_fr_sK vx_fr_refl e9 (by omega)) e11 (by omega)) e14 (by omega)
        · show _ = if ((Pd.1 : Int)) = -1 then 0 else ((Pd.1 : Int))
          rw [if_neg (by omega)]
          omega
        · refine ⟨c0, by rw [e14, vx_J_eq (by omega)]; rfl, by show Pd.1 + 1 ≤ 16; omega, fun q hq => ?_⟩
          have hq : q < Pd.1 + 1 := hq
          show vt_vs _ ∧ (if q = Pd.1 then x else Pd.2.1 q) = _ ∧ _ = (if q = Pd.1 then m else Pd.2.2 q)
          rw [e14, vx_K_sJ, vx_J_ne (by omega), e11, vx_K_sJ, vx_J_sJ (by omega), e9, vx_K_sK (by omega), vx_J_sK]
          by_cases q2 : q = Pd.1
          · rw [if_pos ⟨rfl, by omega⟩, if_pos q2, if_pos ⟨rfl, by omega⟩, if_pos q2]
            exact ⟨hu, hx, rfl⟩
          · rw [if_neg (by omega), if_neg q2, if_neg (by omega), if_neg q2]
            exact c3 q (by omega)
        · exact ⟨by rw [e14, vx_J_ne (by omega), e11, vx_J_ne (by omega), e9, vx_J_sK]; exact hF.1, by rw [e14, vx_J_ne (by omega), e11, vx_J_ne (by omega), e9, vx_J_sK]; exact hF.2⟩
      · have hop : ¬ op = true := fun t => by rw [if_pos t] at hz; omega
        have e : vy_po op Pd F x m p = (-1, Pd, vy_nt F 2 p) := by
          unfold vy_po
          rw [if_neg (by omega), if_neg hop]
        rw [e]
        refine vx_CV_mono (vc_37 hT hF h1 (by omega) hp) ?_
        rintro h16 ⟨f16, F16⟩ _
        refine ⟨vx_fr_mono f16 (by intro a k q; omega), rfl, ⟨c0, (vx_fr_J f16 (by omega)).trans c1, c2, fun q hq => ?_⟩, F16⟩
        rw [vx_fr_K f16 (by omega), vx_fr_J f16 (by omega)]
        exact c3 q hq
    | succ n ih =>
      intro v y hn hv hy hno
      have cv := c3 v (by omega)
      refine vg_40_13 hT ?_
      rw [h48, Int.toNat_natCast, c1, show y.toNat = 16 * sd + v by omega, cv.2.2]
      refine ⟨by omega, by omega, by omega, fun q => absurd q (by omega), fun _ => ⟨by omega, by omega, fun q => ⟨by omega, by omega, fun qm => ⟨by omega, ?_⟩, fun qm => ?_⟩, fun q => ih (v + 1) (y + 1) (by omega) (by omega) (by omega) (fun j hj => ?_)⟩⟩
      · have hvx : vy_vx Pd x = v := vy_ix_eq hno (fun _ => by rw [cv.2.1, hx, q]) (by omega)
        have e : vy_po op Pd F x m p = ((v : Int), Pd, F) := by
          unfold vy_po
          rw [if_pos (by omega), hvx, if_pos qm]
        rw [e]
        refine ⟨vx_fr_refl, ?_, C, hF⟩
        show _ = if (v : Int) = -1 then 0 else (v : Int)
        rw [if_neg (by omega)]
        omega
      · have hvx : vy_vx Pd x = v := vy_ix_eq hno (fun _ => by rw [cv.2.1, hx, q]) (by omega)
        have e : vy_po op Pd F x m p = ((v : Int), Pd, vy_nt F 2 p) := by
          unfold vy_po
          rw [if_pos (by omega), hvx, if_neg qm]
        rw [e]
        refine vx_CV_mono (vc_37 hT hF h1 (by omega) hp) ?_
        rintro h24 ⟨f24, F24⟩ _
        refine ⟨by omega, vx_fr_mono f24 (by intro a k q; omega), ?_, ⟨c0, (vx_fr_J f24 (by omega)).trans c1, c2, fun q hq => ?_⟩, F24⟩
        · show _ = if (v : Int) = -1 then 0 else (v : Int)
          rw [if_neg (by omega)]
          omega
        · rw [vx_fr_K f24 (by omega), vx_fr_J f24 (by omega)]
          exact c3 q hq
      · by_cases q2 : j = v
        · rw [q2, cv.2.1, hx]
          intro e
          exact q (vt_lf_inj cv.1 hu (by omega))
        · exact hno j (by omega)
  exact L Pd.1 0 _ rfl (Nat.zero_le _) (by omega) (fun j hj => by omega)
end
