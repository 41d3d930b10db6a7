/-! Absence and strata: the reference -/
def vs_F (o : Option Int) (F : vy_F) : vy_F := match o with
  | some x => (4, x)
  | none => F
theorem vu_f_some {g : Nat → Option Int} {x : Int} : ∀ {n : Nat}, vu_f g n = some x → ∃ i, i < n ∧ g i = some x
  | 0, h => by cases h
  | n + 1, h => by
    unfold vu_f at h
    cases e : vu_f g n with
    | some y =>
      rw [e] at h
      obtain ⟨i, h1, h2⟩ := vu_f_some (g := g) (n := n) (e.trans h)
      exact ⟨i, by omega, h2⟩
    | none => rw [e] at h; exact ⟨n, by omega, h⟩
theorem vu_f_s {g : Nat → Option Int} {n : Nat} : vu_f g (n + 1) = match vu_f g n with
    | some x => some x
    | none => g n := rfl
section
variable {d n m sd r c : Nat} {h h1 g : ve_H} {Pd : vy_V} {RR : Nat → vu_R} {x y : Int} {F : vy_F} {R : vu_R} {w : Nat → Nat → Bool}
/-- a place that is noted -/
theorem vs_nt_t {l : Nat} {o : Nat → Option Int} (F0 : F.1 = 0) (hx : o l = some x) (hle : ∀ y, vu_f o l = some y → y ≤ x) : vy_nt (vs_F (vu_f o l) F) 4 x = vs_F (vu_f o (l + 1)) F := by
  rw [vu_f_s]
  cases e : vu_f o l with
  | none =>
    show vy_nt F 4 x = vs_F (o l) F
    rw [hx]
    unfold vy_nt
    rw [if_pos (Or.inl F0)]
    rfl
  | some y =>
    have := hle y e
    show vy_nt (4, y) 4 x = (4, y)
    unfold vy_nt
    rw [if_neg]
    rintro (t | t)
    · exact absurd (show (4 : Int) = 0 from t) (by decide)
    · have t : x < y := t; omega
theorem vs_nt_f {l : Nat} {o : Nat → Option Int} (hx : o l = none) : vs_F (vu_f o l) F = vs_F (vu_f o (l + 1)) F := by
  rw [vu_f_s]
  cases e : vu_f o l with
  | none => show F = vs_F (o l) F; rw [hx]; rfl
  | some y => rfl
theorem vs_F1 {o : Option Int} (F0 : F.1 = 0) : (vs_F o F).1 ≠ 1 := by
  cases o with
  | none => show F.1 ≠ 1; omega
  | some x => show (4 : Int) ≠ 1; decide
theorem vu_rg_b (G : vu_rg h sd Pd n RR) (f : vx_fr vy_Sb h h1) : vu_rg h1 sd Pd n RR := vu_rg_fr G f (fun a k t => Or.inr (Or.inr t))
theorem vs_rm_fr {w : Nat → Nat → Prop} {S : Nat → Nat → Prop} (C : vs_rm g w) (f : vx_fr S g h1) (hs : ∀ k, ¬ S 663 k) : vs_rm h1 w := fun a b ha hb => by
  rw [vx_fr_J f (hs _)]; exact C a b ha hb
theorem vc_59_118 {P : ve_H → Prop} {v1 : Int} {o : Option Int} (G : vu_rg h sd Pd n RR) (W : ∀ r, r < n → vu_wR Pd (RR r)) (Cw : vs_rm h (fun a b => w a b = true)) (hr : r < n) (hv : v1 = ((30 * sd + r : Nat) : Int)) (F0 : F.1 = 0) (ho : o = vu_f (vs_ht w (RR r)) (RR r).2.2.2.2.1)
    (X : ∀ g v2, vx_T 625 672 g → vx_fr vy_Sb h g → vy_rf g (vs_F (vs_hr w (RR r)) F) → vx_W (d + 1) 59 12 [some (.ref 625), some (.int (vx_i (v1 + 1))), v2] [] g (vx_RV P)) :
    ∀ (m j : Nat) (g : ve_H) (z : Int), m = (RR r).2.2.2.2.1 - j → j ≤ (RR r).2.2.2.2.1 → z = ((6 * (30 * sd + r) + j : Nat) : Int) → vx_T 625 672 g → vx_fr vy_Sb h g → vy_rf g (match o with | some x => (4, x) | none => vs_F (vu_f (vs_hl w (RR r)) j) F) → vx_W (d + 1) 59 118 [some (.ref 625), some (.int (vx_i v1)), some (.int (vx_i z))] [] g (vx_RV P) := by
  have n30 := G.2.2.2.1
  have sd2 := G.1.1
  have P16 := G.1.2.2.1
  obtain ⟨-, -, -, -, -, -, -, -, pp, wO⟩ := W r hr
  intro m
  induction m with
  | zero =>
    intro j g z hm hj hz hT f C
    have Cg := (vu_rg_b G f).2.2.2.2 r hr
    have l6 := Cg.2.1.2.1
    refine vg_59_118 hT ?_
    rw [show v1.toNat = 30 * sd + r by omega, Cg.2.1.1]
    refine ⟨by omega, by omega, by omega, fun _ => X g _ hT f ?_, fun q => absurd q (by omega)⟩
    have ej : j = (RR r).2.2.2.2.1 := by omega
    rw [ej] at C
    unfold vs_hr
    rw [← ho]
    cases o with
    | none => exact C
    | some x => exact C
  | succ m ih =>
    intro j g z hm hj hz hT f C
    have Gg := vu_rg_b G f
    have Cg := Gg.2.2.2.2 r hr
    have hj2 : j < (RR r).2.2.2.2.1 := by omega
    have l6 := Cg.2.1.2.1
    obtain ⟨-, a2, a3, a4⟩ := vu_rql Cg (W r hr) hj2
    have NX : vs_hl w (RR r) j = none → vx_W (d + 1) 59 118 [some (.ref 625), some (.int (vx_i v1)), some (.int (vx_i (z + 1)))] [] g (vx_RV P) := fun t => by
      refine ih (j + 1) g (z + 1) (by omega) (by omega) (by omega) hT f ?_
      cases o with
      | none =>
        have C : vy_rf g (vs_F (vu_f (vs_hl w (RR r)) j) F) := C
        rw [vs_nt_f t] at C
        exact C
      | some x => exact C
    refine vg_59_118 hT ?_
    rw [show v1.toNat = 30 * sd + r by omega, Cg.2.1.1, show z.toNat = 6 * (30 * sd + r) + j by omega, Cg.2.2.2.2.1]
    refine ⟨by omega, by omega, by omega, fun q => absurd q (by omega), fun _ => ⟨by omega, fun q => NX (vs_hl_f (fun t => q (a2.mpr t.1))), fun q => ⟨by omega, by omega, ?_⟩⟩⟩
    have k15 := a2.mp q
    refine vx_CI_mono (vc_58b hT P16 (vs_rm_fr Cw f (fun k => by simp)) (W r hr) hj2 (Or.inr k15) rfl (a4 (Or.inr k15))) ?_
    rintro r9 h9 _ ⟨rfl, ⟨rfl, q9⟩ | ⟨rfl, q9⟩⟩ T9
    · refine ⟨fun t => absurd t (by decide), fun _ => ⟨by omega, ?_⟩⟩
      rw [a3]
      have hx := vs_hl_t ⟨k15, q9⟩
      have rI : vx_rI ((RR r).2.2.2.2.2.2.2.1 j) := by rw [← a3]; exact vx_rI_J _ _ _
      cases o with
      | none =>
        refine vx_CV_mono (vc_37 (d := d) hT C (vs_F1 F0) (by decide) rI) ?_
        rintro h12 ⟨f12, C12⟩ T12
        refine ih (j + 1) h12 (z + 1) (by omega) (by omega) (by omega) T12 (vx_fr_trans f f12) ?_
        show vy_rf h12 (vs_F (vu_f (vs_hl w (RR r)) (j + 1)) F)
        rw [← vs_nt_t F0 hx (fun y hy => ?_)]
        · exact C12
        · obtain ⟨i, hi, e⟩ := vu_f_some hy
          have : y = (RR r).2.2.2.2.2.2.2.1 i := by
            by_cases t : (RR r).2.2.2.2.2.1 i = 15 ∧ vs_bk w (RR r) i
            · rw [vs_hl_t t] at e; cases e; rfl
            · rw [vs_hl_f t] at e; cases e
          rw [this]
          have := wO.1 i j hi hj2
          omega
      | some x =>
        refine vx_CV_mono (vc_37 (d := d) hT C (show (4 : Int) ≠ 1 by decide) (by decide) rI) ?_
        rintro h12 ⟨f12, C12⟩ T12
        refine ih (j + 1) h12 (z + 1) (by omega) (by omega) (by omega) T12 (vx_fr_trans f f12) ?_
        have C12 : vy_rf h12 (vy_nt (4, x) 4 ((RR r).2.2.2.2.2.2.2.1 j)) := C12
        have : vy_nt (4, x) 4 ((RR r).2.2.2.2.2.2.2.1 j) = (4, x) := by
          obtain ⟨i, hi, e⟩ := vu_f_some ho.symm
          unfold vy_nt
          rw [if_neg]
          rintro (t | t)
          · exact absurd (show (4 : Int) = 0 from t) (by decide)
          · have t : (RR r).2.2.2.2.2.2.2.1 j < x := t
            by_cases u : (RR r).2.2.1.1 ≠ -1 ∧ vs_ak (RR r).2.2.2.2 i ∧ vs_bk w (RR r) i
            · rw [vs_ht_t u] at e
              have e : (RR r).2.2.1.2.2 = x := Option.some.inj e
              have := (wO.2.2 u.1).2 j hj2
              omega
            · rw [vs_ht_f u] at e; cases e
        rw [this] at C12
        exact C12
    · exact ⟨fun _ => NX (vs_hl_f (fun t => q9 t.2)), fun t => absurd rfl t⟩
theorem vc_59_45 {P : ve_H → Prop} {v1 : Int} (G : vu_rg h sd Pd n RR) (W : ∀ r, r < n → vu_wR Pd (RR r)) (Cw : vs_rm h (fun a b => w a b = true)) (hr : r < n) (hv : v1 = ((30 * sd + r : Nat) : Int)) (F0 : F.1 = 0)
    (X : ∀ g v2, vx_T 625 672 g → vx_fr vy_Sb h g → vy_rf g (vs_F (vs_hr w (RR r)) F) → vx_W (d + 1) 59 12 [some (.ref 625), some (.int (vx_i (v1 + 1))), v2] [] g (vx_RV P)) :
    ∀ (m j : Nat) (g : ve_H) (z : Int), m = (RR r).2.2.2.2.1 - j → j ≤ (RR r).2.2.2.2.1 → z = ((6 * (30 * sd + r) + j : Nat) : Int) → vx_T 625 672 g → vx_fr vy_Sb h g → vy_rf g (vs_F (vu_f (vs_ht w (RR r)) j) F) → vx_W (d + 1) 59 45 [some (.ref 625), some (.int (vx_i v1)), some (.int (vx_i z))] [] g (vx_RV P) := by
  have n30 := G.2.2.2.1
  have sd2 := G.1.1
  have P16 := G.1.2.2.1
  have wR := W r hr
  intro m
  induction m with
  | zero =>
    intro j g z hm hj hz hT f C
    have Cg := (vu_rg_b G f).2.2.2.2 r hr
    have l6 := Cg.2.1.2.1
    refine vg_59_45 hT ?_
    rw [show v1.toNat = 30 * sd + r by omega, Cg.2.1.1]
    refine ⟨by omega, by omega, by omega, fun _ => ?_, fun q => absurd q (by omega)⟩
    have ej : j = (RR r).2.2.2.2.1 := by omega
    rw [ej] at C
    refine vc_59_118 (o := vu_f (vs_ht w (RR r)) (RR r).2.2.2.2.1) G W Cw hr hv F0 rfl X _ 0 g _ rfl (Nat.zero_le _) (by omega) hT f ?_
    cases e : vu_f (vs_ht w (RR r)) (RR r).2.2.2.2.1 with
    | none => rw [e] at C; exact C
    | some x => rw [e] at C; exact C
  | succ m ih =>
    intro j g z hm hj hz hT f C
    have Gg := vu_rg_b G f
    have Cg := Gg.2.2.2.2 r hr
    have hj2 : j < (RR r).2.2.2.2.1 := by omega
    have l6 := Cg.2.1.2.1
    obtain ⟨-, a2, a3, a4⟩ := vu_rql Cg wR hj2
    have tw := Cg.2.2.1
    have wo : (RR r).2.2.1.1 = -1 ∨ (6 ≤ (RR r).2.2.1.1 ∧ (RR r).2.2.1.1 ≤ 9) := by
      obtain ⟨-, -, -, -, -, -, ⟨p, mm, -, -, -, -, -, -, ov⟩, -⟩ := wR
      exact ov.elim Or.inl (fun t => Or.inr t.1)
    have NX : vs_ht w (RR r) j = none → vx_W (d + 1) 59 45 [some (.ref 625), some (.int (vx_i v1)), some (.int (vx_i (z + 1)))] [] g (vx_RV P) := fun t => ih (j + 1) g (z + 1) (by omega) (by omega) (by omega) hT f (by rw [← vs_nt_f t]; exact C)
    refine vg_59_45 hT ?_
    rw [show v1.toNat = 30 * sd + r by omega, Cg.2.1.1, tw]
    refine ⟨by omega, by omega, by omega, fun q => absurd q (by omega), fun _ => ⟨by omega, fun q => NX (vs_ht_f (fun t => ?_)), fun q => vx_CI_mono (vc_56 hT (by omega) Cg wR hj2 hz) ?_⟩⟩
    · rw [if_neg t.1] at q; omega
    have o1 : (RR r).2.2.1.1 ≠ -1 := fun t => by rw [if_pos t] at q; omega
    rintro r7 h7 _ ⟨rfl, ⟨rfl, q7⟩ | ⟨rfl, q7⟩⟩ T7
    · refine ⟨fun t => absurd t (by decide), fun _ => ⟨by omega, by omega, ?_⟩⟩
      rw [show z.toNat = 6 * (30 * sd + r) + j by omega, Cg.2.2.2.2.1]
      refine vx_CI_mono (vc_58b hT P16 (vs_rm_fr Cw f (fun k => by simp)) wR hj2 q7 rfl (a4 q7)) ?_
      rintro r11 h11 _ ⟨rfl, ⟨rfl, q11⟩ | ⟨rfl, q11⟩⟩ T11
      · refine ⟨fun t => absurd t (by decide), fun _ => ⟨by omega, ?_⟩⟩
        have e62 := (Cg.2.2.2.1 o1).2
        rw [e62]
        have hx := vs_ht_t ⟨o1, q7, q11⟩
        refine vx_CV_mono (vc_37 (d := d) hT C (vs_F1 F0) (by decide) (by rw [← e62]; exact vx_rI_J _ _ _)) ?_
        rintro h14 ⟨f14, C14⟩ T14
        refine ih (j + 1) h14 (z + 1) (by omega) (by omega) (by omega) T14 (vx_fr_trans f f14) ?_
        rw [← vs_nt_t F0 hx (fun y hy => ?_)]
        · exact C14
        · obtain ⟨i, hi, e⟩ := vu_f_some hy
          by_cases t : (RR r).2.2.1.1 ≠ -1 ∧ vs_ak (RR r).2.2.2.2 i ∧ vs_bk w (RR r) i
          · rw [vs_ht_t t] at e
            have e : (RR r).2.2.1.2.2 = y := Option.some.inj e
            omega
          · rw [vs_ht_f t] at e; cases e
      · exact ⟨fun _ => NX (vs_ht_f (fun t => q11 t.2.2)), fun t => absurd rfl t⟩
    · exact ⟨fun _ => NX (vs_ht_f (fun t => q7 t.2.1)), fun t => absurd rfl t⟩
theorem vc_59 (hT : vx_T 625 672 h) (G : vu_rg h sd Pd n RR) (W : ∀ r, r < n → vu_wR Pd (RR r)) (C : vy_rf h F) (F0 : F.1 = 0) : vx_CV (d + 2) 59 [.ref 625] h (fun h1 => vx_fr (fun a k => a = 663 ∨ vy_Sb a k) h h1 ∧ vy_rf h1 (vs_F (vs_hp (vs_w (vs_e n RR) 16) n RR) F)) := by
  have n30 := G.2.2.2.1
  have sd2 := G.1.1
  refine vg_59 hT (vx_CV_mono (vc_57 (d := d) hT G W) ?_)
  rintro h1 ⟨f1, M1⟩ T1
  have G1 := vu_rg_m G f1
  have C1 : vy_rf h1 F := ⟨(vx_fr_J f1 (by decide)).trans C.1, (vx_fr_J f1 (by decide)).trans C.2⟩
  have FR : ∀ g, vx_fr vy_Sb h1 g → vx_fr (fun a k => a = 663 ∨ vy_Sb a k) h g := fun g f => vx_fr_trans (vx_fr_mono f1 (fun a k q => Or.inl q)) (vx_fr_mono f (fun a k q => Or.inr q))
  have L : ∀ (m r : Nat) (g : ve_H) (z : Int) (v2 : Option Value), m = n - r → r ≤ n → z = ((30 * sd + r : Nat) : Int) → vx_T 625 672 g → vx_fr vy_Sb h1 g → vy_rf g (vs_F (vu_f (fun r => vs_hr (vs_w (vs_e n RR) 16) (RR r)) r) F) → vx_W (d + 1 + 1) 59 12 [some (.ref 625), some (.int (vx_i z)), v2] [] g (vx_RV (fun h1 => vx_fr (fun a k => a = 663 ∨ vy_Sb a k) h h1 ∧ vy_rf h1 (vs_F (vs_hp (vs_w (vs_e n RR) 16) n RR) F))) := by
    intro m
    induction m with
    | zero =>
      intro r g z v2 hm hr hz Tg f Cg
      have Gg := vu_rg_b G1 f
      have er : r = n := by omega
      rw [er] at Cg
      refine vg_59_12 Tg ?_
      rw [Gg.2.1, Int.toNat_natCast, Gg.2.2.1]
      exact ⟨by omega, by omega, by omega, fun _ => ⟨FR g f, Cg⟩, fun q => absurd q (by omega)⟩
    | succ m ih =>
      intro r g z v2 hm hr hz Tg f Cg
      have Gg := vu_rg_b G1 f
      refine vg_59_12 Tg ?_
      rw [Gg.2.1, Int.toNat_natCast, Gg.2.2.1]
      refine ⟨by omega, by omega, by omega, fun q => absurd q (by omega), fun _ => ⟨fun q3 => ⟨FR g f, ?_⟩, fun q3 => ?_⟩⟩
      · cases e : vu_f (fun r => vs_hr (vs_w (vs_e n RR) 16) (RR r)) r with
        | none => rw [e] at Cg; exact absurd (Cg.1.trans F0) q3
        | some x =>
          rw [e] at Cg
          have : ∀ k, vu_f (fun r => vs_hr (vs_w (vs_e n RR) 16) (RR r)) (r + k) = some x := by
            intro k
            induction k with
            | zero => exact e
            | succ k ihk => rw [show r + (k + 1) = (r + k) + 1 by omega, vu_f_s, ihk]
          have := this (n - r)
          rw [show r + (n - r) = n by omega] at this
          unfold vs_hp
          rw [this]
          exact Cg
      · have e : vu_f (fun r => vs_hr (vs_w (vs_e n RR) 16) (RR r)) r = none := by
          cases e : vu_f (fun r => vs_hr (vs_w (vs_e n RR) 16) (RR r)) r with
          | none => rfl
          | some x => rw [e] at Cg; exact absurd (Cg.1.symm.trans q3) (show (4 : Int) ≠ 0 by decide)
        rw [e] at Cg
        refine vc_59_45 (r := r) (F := F) Gg W (vs_rm_fr M1 f (fun k => by simp)) (by omega) hz F0 (fun g1 v2 T1 f1 C1 => ih (r + 1) g1 (z + 1) v2 (by omega) (by omega) (by omega) T1 (vx_fr_trans f f1) ?_) _ 0 g _ rfl (Nat.zero_le _) (by omega) Tg vx_fr_refl Cg
        rw [vu_f_s, e]
        exact C1
  rw [G1.2.1]
  exact L n 0 h1 _ none rfl (Nat.zero_le _) (by omega) T1 vx_fr_refl C1
end
