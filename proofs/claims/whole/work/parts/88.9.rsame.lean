/-! Reading without growth: the reference's predicates stay -/
def vd_aR (ts : vy_T) (cl sd : Nat) (op hd : Bool) (R : vy_R8) (h : ve_H) (r : Int) (h1 : ve_H) : Prop := vx_fr (vy_Sn cl 2) h h1 ∧ match R with
  | .inl p => r = 0 ∧ vy_rbad p h1
  | .inr q => r = 1 ∧ vy_rr h1 ts cl sd op q.1 q.2.1 q.2.2.1 q.2.2.2.2.2.2.1 q.2.2.2.2.2.2.2 ∧ vy_ra h1 q.2.2.2.1 q.2.2.2.2.1 ∧ vx_J h1 625 50 = (q.2.2.2.2.1 : Nat) ∧ vx_J h1 625 57 = (if q.2.2.2.2.2.1 = -1 then 0 else q.2.2.2.2.2.1) ∧ (hd = true → vy_fi h1 ts q.1 q.2.1 q.2.2.1)
def vd_lR (ts : vy_T) (cl sd : Nat) (op : Bool) (O : vy_O) (R : vy_R6) (h : ve_H) (r : Int) (h1 : ve_H) : Prop := vx_fr (vy_Sz cl 2) h h1 ∧ match R with
  | .inl p => r = 0 ∧ vy_rbad p h1
  | .inr q => r = 1 ∧ vy_rs h1 ts cl sd op q.1 q.2.1 O q.2.2.1 q.2.2.2.1 q.2.2.2.2.1 q.2.2.2.2.2
section
variable {d i cl sd : Nat} {h : ve_H} {ts : vy_T} {V Pd : vy_V} {O : vy_O} {F : vy_F} {x y : Int}
theorem vd_40 {u m p z : Int} {op : Bool} (ho : op = false) (hT : vx_T 625 672 h) (C : vy_rp h sd Pd) (h48 : vx_J h 625 48 = sd) (hF : vy_rf h F) (h1 : F.1 ≠ 1) (hu : vt_vs u) (hx : x = 72057594037927936 + vt_lf u) (hm : 1 ≤ m ∧ m ≤ 4) (hp : vx_rI p) (hz : z = if op = true then 1 else 0) (room : vy_vx Pd x < Pd.1 ∨ op = false ∨ Pd.1 < 16) : vx_CI (d + 1) 40 [.ref 625, .long (vx_l u), .int (vx_i m), .int (vx_i p), .int (vx_i z)] h (fun r h1 => vx_fr (vy_Sp 2) h h1 ∧ r = (if (vy_po op Pd F x m p).1 = -1 then 0 else (vy_po op Pd F x m p).1) ∧ vy_rp h1 sd (vy_po op Pd F x m p).2.1 ∧ vy_rf h1 (vy_po op Pd F x m p).2.2) := by
  obtain ⟨c0, c1, c2, c3⟩ := id C
  refine vg_40 hT ?_
  rw [h48]
  have L : ∀ (n v : Nat) (y : Int), Pd.1 - v = n → v ≤ Pd.1 → y = 16 * (sd : Int) + v → (∀ j, j < v → Pd.2.1 j ≠ x) → vx_W (d + 1) 40 13 [some (.ref 625), some (.long (vx_l u)), none, some (.int (vx_i m)), some (.int (vx_i p)), some (.int (vx_i z)), some (.int (vx_i (16 * (sd : Int)))), some (.int (vx_i y))] [] h (vx_RI (fun r h1 => vx_fr (vy_Sp 2) h h1 ∧ r = (if (vy_po op Pd F x m p).1 = -1 then 0 else (vy_po op Pd F x m p).1) ∧ vy_rp h1 sd (vy_po op Pd F x m p).2.1 ∧ vy_rf h1 (vy_po op Pd F x m p).2.2)) := by
    intro n
    induction n with
    | zero =>
      intro v y hn hv hy hno
      have hvx : vy_vx Pd x = Pd.1 := vy_ix_eq (fun j hj => hno j (by omega)) (fun q => absurd q (by omega)) (Nat.le_refl _)
      refine vg_40_13 hT ?_
      rw [h48, Int.toNat_natCast, c1, show (16 * (sd : Int) + (Pd.1 : Int)).toNat = 16 * sd + Pd.1 by omega]
      refine ⟨by omega, by omega, by omega, fun _ => ⟨by rw [hz]; split <;> omega, fun q => ?_, fun q => ?_⟩, fun q => absurd q (by omega)⟩
      · exfalso
        rw [hz, ho] at q
        exact q (if_neg (by decide))
      · have hop : ¬ op = true := fun t => by rw [if_pos t] at hz; omega
        have e : vy_po op Pd F x m p = (-1, Pd, vy_nt F 2 p) := by
          unfold vy_po
          rw [if_neg (by omega), if_neg hop]
        rw [e]
        refine vx_CV_mono (vc_37 hT hF h1 (by omega) hp) ?_
        rintro h16 ⟨f16, F16⟩ _
        refine ⟨vx_fr_mono f16 (by intro a k q; omega), rfl, ⟨c0, (vx_fr_J f16 (by omega)).trans c1, c2, fun q hq => ?_⟩, F16⟩
        rw [vx_fr_K f16 (by omega), vx_fr_J f16 (by omega)]
        exact c3 q hq
    | succ n ih =>
      intro v y hn hv hy hno
      have cv := c3 v (by omega)
      refine vg_40_13 hT ?_
      rw [h48, Int.toNat_natCast, c1, show y.toNat = 16 * sd + v by omega, cv.2.2]
      refine ⟨by omega, by omega, by omega, fun q => absurd q (by omega), fun _ => ⟨by omega, by omega, fun q => ⟨by omega, by omega, fun qm => ⟨by omega, ?_⟩, fun qm => ?_⟩, fun q => ih (v + 1) (y + 1) (by omega) (by omega) (by omega) (fun j hj => ?_)⟩⟩
      · have hvx : vy_vx Pd x = v := vy_ix_eq hno (fun _ => by rw [cv.2.1, hx, q]) (by omega)
        have e : vy_po op Pd F x m p = ((v : Int), Pd, F) := by
          unfold vy_po
          rw [if_pos (by omega), hvx, if_pos qm]
        rw [e]
        refine ⟨vx_fr_refl, ?_, C, hF⟩
        show _ = if (v : Int) = -1 then 0 else (v : Int)
        rw [if_neg (by omega)]
        omega
      · have hvx : vy_vx Pd x = v := vy_ix_eq hno (fun _ => by rw [cv.2.1, hx, q]) (by omega)
        have e : vy_po op Pd F x m p = ((v : Int), Pd, vy_nt F 2 p) := by
          unfold vy_po
          rw [if_pos (by omega), hvx, if_neg qm]
        rw [e]
        refine vx_CV_mono (vc_37 hT hF h1 (by omega) hp) ?_
        rintro h24 ⟨f24, F24⟩ _
        refine ⟨by omega, vx_fr_mono f24 (by intro a k q; omega), ?_, ⟨c0, (vx_fr_J f24 (by omega)).trans c1, c2, fun q hq => ?_⟩, F24⟩
        · show _ = if (v : Int) = -1 then 0 else (v : Int)
          rw [if_neg (by omega)]
          omega
        · rw [vx_fr_K f24 (by omega), vx_fr_J f24 (by omega)]
          exact c3 q hq
      · by_cases q2 : j = v
        · rw [q2, cv.2.1, hx]
          intro e
          exact q (vt_lf_inj cv.1 hu (by omega))
        · exact hno j (by omega)
  exact L Pd.1 0 _ rfl (Nat.zero_le _) (by omega) (fun j hj => by omega)
end
section
variable {d i cl sd : Nat} {h : ve_H} {ts : vy_T} {V Pd : vy_V} {O : vy_O} {F : vy_F} {x y : Int} {op : Bool}
theorem vd_42 {hd any : Bool} {v1 v2 : Int} (ho : op = false) (hT : vx_T 625 672 h) (ok : vy_ok ts) (B : vy_rr h ts cl sd op i V O Pd F) (hv1 : vx_rI v1 ∧ (v1 ≠ 0 ↔ hd = true)) (hv2 : vx_rI v2 ∧ (v2 ≠ 0 ↔ any = true)) (hxx : hd = true → any = false) (hfi : hd = true → vy_fi h ts i V O) :
    vx_CI (d + 4) 42 [.ref 625, .int (vx_i v1), .int (vx_i v2)] h (vd_aR ts cl sd op hd (vy_am ts op hd any i V O Pd F) h) := by
  obtain ⟨Bb, Bo, B48, B49, Bp, Bf, F1⟩ := B
  have hl := ok.2.1
  have hi := Bb.2.2.1
  have hkr := vy_kr Bb.1 hi
  have hp := ok.2.2.2.1 i hi
  have n1 : vx_J h 625 3 ≠ 1 := by rw [Bf.1]; exact F1
  have hsd := Bp.1
  have REF : vy_am ts op hd any i V O Pd F = .inl (vy_p ts i) → vx_CI (d + 3) 33 [.ref 625] h (fun r3 h3 => vx_T 625 672 h3 → (r3 = 0 ∨ r3 = 1) ∧ vd_aR ts cl sd op hd (vy_am ts op hd any i V O Pd F) h r3 h3) := by
    intro e
    refine vx_CI_mono (vc_33 (d := d + 2) hT ok Bb n1) ?_
    rintro r3 h3 _ ⟨rfl, f3, b3⟩ _
    rw [e]
    exact ⟨Or.inl rfl, vx_fr_mono f3 (fun a k q => vy_Sn_q (vy_Sq_b q)), rfl, b3⟩
  -- from the name on
  have GO : vy_k ts i = 2 → ¬ (¬ vy_vx Pd (vy_v ts i) < Pd.1 ∧ op = true ∧ 16 ≤ Pd.1) → vx_W (d + 3 + 1) 42 60 [some (.ref 625), some (.int (vx_i v1)), some (.int (vx_i v2)), some (.int (vx_i (i : Int))), none] [] h (vx_RI (vd_aR ts cl sd op hd (vy_am ts op hd any i V O Pd F) h)) := by
    intro hk2 hroom
    have hv := hkr.2.2.2.1 hk2
    refine vg_42_60 hT (fun h1 e1 T1 h2 e2 T2 => ?_)
    rw [Bb.2.1] at e1
    have hi1 := vy_nx ok hi (by omega)
    have B1 := vy_rb_at Bb e1 (j := i + 1) (by omega) hi1 (by omega)
    have g2 : vx_fr (fun a k => a = 625 ∧ k = 50) h1 h2 := vx_fr_sJ vx_fr_refl e2 ⟨rfl, rfl⟩
    have B2 := vy_rb_fr B1 g2 (fun k => by simp [vy_Sq, vy_Sp, vy_Sb]) (by simp [vy_Sq, vy_Sp, vy_Sb]) (by simp [vy_Sq, vy_Sp, vy_Sb])
    have f2 : vx_fr (fun a k => a = 625 ∧ (k = 10 ∨ k = 50)) h h2 := vx_fr_sJ (vx_fr_sJ vx_fr_refl e1 (by omega)) e2 (by omega)
    refine vx_CI_mono (vc_36 (d := d + 1) (s := 40) T2 ok B2 (by rw [vx_fr_J f2 (by simp [vy_Sq, vy_Sp, vy_Sb])]; exact n1) (by omega) rfl) ?_
    rintro r3 h3 _ (⟨rfl, q40, e3, B3⟩ | ⟨rfl, q40, f3, b3⟩) T3
    · refine ⟨fun _ => ?_, fun q => absurd q (by omega)⟩
      have f3 : vx_fr (fun a k => a = 625 ∧ (k = 10 ∨ k = 50)) h h3 := vx_fr_sJ f2 e3 (by omega)
      refine vc_42_86 (d := d) (cl := cl) (h0 := h) (hd := hd) (any := any) (R := vy_ar ts hd any 4 (i + 2) V O (fun _ => 0)) ok n1 hv1 hv2 hxx ?_ ?_ 4 (i + 2) V O (fun _ => 0) h3 none (by omega) T3 (vx_fr_mono f3 (fun a k q => vy_Sq_1 q)) ⟨vx_fr_J f3 (by simp [vy_Sq, vy_Sp, vy_Sb]), vx_fr_J f3 (by simp [vy_Sq, vy_Sp, vy_Sb])⟩ B3 (by rw [e3, vx_J_ne (by simp), e2, vx_J_eq (by omega)]; rfl) (vy_ro_fr Bo f3 (by simp [vy_Sq, vy_Sp, vy_Sb])) (fun k hk => absurd hk (by omega)) (fun t => ⟨(vx_fr_J f3 (by simp [vy_Sq, vy_Sp, vy_Sb])).trans (hfi t).1, (hfi t).2.1, fun v hv => ⟨((hfi t).2.2 v hv).1, ?_⟩⟩) rfl
      · intro g p hR fg bg
        have e : vy_am ts op hd any i V O Pd F = .inl p := by
          unfold vy_am
          rw [if_neg (fun t => t hk2), if_neg hroom, if_neg (fun t => t q40), hR]
        rw [e]
        exact ⟨vx_fr_mono fg (fun a k q => vy_Sn_q q), rfl, bg⟩
      · intro g j W Q A m Tg hR fg xg Bg n50 Cg Ag ffg
        have hm := vy_ar_many 4 (i + 2) V O (fun _ => 0) (by omega) hR
        have hm : 1 ≤ m ∧ m ≤ 4 := hm
        refine vx_CI_mono (vc_36 (d := d + 1) (s := 41) Tg ok Bg (by rw [xg.1]; exact n1) (by omega) rfl) ?_
        rintro r8 h8 _ (⟨rfl, q41, e8, B8⟩ | ⟨rfl, q41, f8, b8⟩) T8
        · refine ⟨fun _ => ⟨by omega, by omega, ?_⟩, fun q => absurd q (by omega)⟩
          have f8 : vx_fr (fun a k => a = 625 ∧ k = 10) g h8 := vx_fr_sJ vx_fr_refl e8 ⟨rfl, rfl⟩
          have F8 : vx_fr (vy_Sq cl) h h8 := vx_fr_trans fg (vx_fr_mono f8 (fun a k q => vy_Sq_10 q))
          have P8 : vy_rp h8 sd Pd := ⟨hsd, (vx_fr_J F8 (by simp [vy_Sq, vy_Sp, vy_Sb])).trans Bp.2.1, Bp.2.2.1, fun p hp => by rw [vx_fr_K F8 (by simp [vy_Sq, vy_Sp, vy_Sb]), vx_fr_J F8 (by simp [vy_Sq, vy_Sp, vy_Sb])]; exact Bp.2.2.2 p hp⟩
          have hf8 : vy_rf h8 F := ⟨(vx_fr_J f8 (by simp [vy_Sq, vy_Sp, vy_Sb])).trans (xg.1.trans Bf.1), (vx_fr_J f8 (by simp [vy_Sq, vy_Sp, vy_Sb])).trans (xg.2.trans Bf.2)⟩
          have s8 : vx_J h8 625 48 = sd := (vx_fr_J F8 (by simp [vy_Sq, vy_Sp, vy_Sb])).trans B48
          have o8 : vx_J h8 625 49 = (if op = true then 1 else 0) := (vx_fr_J F8 (by simp [vy_Sq, vy_Sp, vy_Sb])).trans B49
          have m8 : vx_J h8 625 50 = (m : Nat) := (vx_fr_J f8 (by simp [vy_Sq, vy_Sp, vy_Sb])).trans n50
          have u8 : vx_K h8 630 i = vx_K h 630 i := vx_fr_K F8 (by simp [vy_Sq, vy_Sp, vy_Sb])
          have p8 : vx_J h8 628 i = vy_p ts i := (vx_fr_J F8 (by simp [vy_Sq, vy_Sp, vy_Sb])).trans hkr.1
          rw [Int.toNat_natCast, u8, p8, m8, o8]
          have hroom2 : vy_vx Pd (vy_v ts i) < Pd.1 ∨ op = false ∨ Pd.1 < 16 := by
            by_cases c1 : vy_vx Pd (vy_v ts i) < Pd.1
            · exact Or.inl c1
            · cases op with
              | false => exact Or.inr (Or.inl rfl)
              | true => exact Or.inr (Or.inr (by
                  by_cases c2 : Pd.1 < 16
                  · exact c2
                  · exact absurd ⟨c1, rfl, by omega⟩ hroom))
          refine vx_CI_mono (vd_40 (ho := ho) (d := d + 2) (x := vy_v ts i) (op := op) T8 P8 s8 hf8 F1 hv.2.1 hv.2.2 (by omega) (by omega) rfl hroom2) ?_
          rintro r12 h12 hr12 ⟨f12, er, P12, hf12⟩ T12 h13 e13 T13
          have f13 : vx_fr (fun a k => a = 625 ∧ k = 57) h12 h13 := vx_fr_sJ vx_fr_refl e13 ⟨rfl, rfl⟩
          rw [vy_po_am hk2 hroom q40 hR q41]
          have fall : vx_fr (vy_Sn cl 2) h h13 := vx_fr_trans (vx_fr_trans (vx_fr_mono F8 (fun a k q => vy_Sn_q q)) (vx_fr_mono f12 (fun a k q => vy_Sn_p q))) (vx_fr_mono f13 (fun a k q => vy_Sn_57 q))
          have B13 := vy_rb_fr (vy_rb_fr B8 f12 (fun k => by simp [vy_Sq, vy_Sp, vy_Sb]) (by simp [vy_Sq, vy_Sp, vy_Sb]) (by simp [vy_Sq, vy_Sp, vy_Sb])) f13 (fun k => by simp [vy_Sq, vy_Sp, vy_Sb]) (by simp [vy_Sq, vy_Sp, vy_Sb]) (by simp [vy_Sq, vy_Sp, vy_Sb])
          refine ⟨fall, rfl, ⟨B13, vy_ro_fr (vy_ro_fr (vy_ro_fr Cg f8 (by omega)) f12 (by simp [vy_Sq, vy_Sp, vy_Sb])) f13 (by omega), (vx_fr_J f13 (by simp [vy_Sq, vy_Sp, vy_Sb])).trans ((vx_fr_J f12 (by simp [vy_Sq, vy_Sp, vy_Sb])).trans s8), (vx_fr_J f13 (by simp [vy_Sq, vy_Sp, vy_Sb])).trans ((vx_fr_J f12 (by simp [vy_Sq, vy_Sp, vy_Sb])).trans o8), ?_, ⟨(vx_fr_J f13 (by simp [vy_Sq, vy_Sp, vy_Sb])).trans hf12.1, (vx_fr_J f13 (by simp [vy_Sq, vy_Sp, vy_Sb])).trans hf12.2⟩, ?_⟩, vy_ra_fr (vy_ra_fr (vy_ra_fr Ag f8 (fun k => by simp [vy_Sq, vy_Sp, vy_Sb])) f12 (fun k => by simp [vy_Sq, vy_Sp, vy_Sb])) f13 (fun k => by simp [vy_Sq, vy_Sp, vy_Sb]), (vx_fr_J f13 (by simp [vy_Sq, vy_Sp, vy_Sb])).trans ((vx_fr_J f12 (by simp [vy_Sq, vy_Sp, vy_Sb])).trans m8), ?_, fun t => ⟨(vx_fr_J f13 (by simp [vy_Sq, vy_Sp, vy_Sb])).trans ((vx_fr_J f12 (by simp [vy_Sq, vy_Sp, vy_Sb])).trans ((vx_fr_J f8 (by simp [vy_Sq, vy_Sp, vy_Sb])).trans (ffg t).1)), (ffg t).2.1, fun v hv => ⟨((ffg t).2.2 v hv).1, ?_⟩⟩⟩
          · obtain ⟨c0, c1, c2, c3⟩ := P12
            exact ⟨c0, (vx_fr_J f13 (by simp [vy_Sq, vy_Sp, vy_Sb])).trans c1, c2, fun p hp => by rw [vx_fr_K f13 (by simp [vy_Sq, vy_Sp, vy_Sb]), vx_fr_J f13 (by simp [vy_Sq, vy_Sp, vy_Sb])]; exact c3 p hp⟩
          · show (vy_po op Pd F (vy_v ts i) (m : Int) (vy_p ts i)).2.2.1 ≠ 1
            unfold vy_po
            split
            · show (if Pd.2.2 (vy_vx Pd (vy_v ts i)) = (m : Int) then F else vy_nt F 2 (vy_p ts i)).1 ≠ 1
              split
              · exact F1
              · exact vy_nt1 F1
            split
            · exact F1
            · exact vy_nt1 F1
          · rw [e13, vx_J_eq hr12]
            exact er
          · have a1 := ((ffg t).2.2 v hv).2
            have a2 := ok.2.2.2.2.1 j (j + 1) (by omega) B8.2.2.1
            show W.2.2 v < vy_p ts (j + 1)
            omega
        · have e : vy_am ts op hd any i V O Pd F = .inl (vy_p ts j) := by
            unfold vy_am
            rw [if_neg (fun t => t hk2), if_neg hroom, if_neg (fun t => t q40), hR]
            exact if_pos q41
          rw [e]
          exact ⟨fun q => absurd rfl q, fun _ => ⟨vx_fr_trans (vx_fr_mono fg (fun a k q => vy_Sn_q q)) (vx_fr_mono f8 (fun a k q => vy_Sn_q (vy_Sq_b q))), rfl, b8⟩⟩
      · have a1 := ((hfi t).2.2 v hv).2
        have a2 := ok.2.2.2.2.1 i (i + 2) (by omega) B3.2.2.1
        show V.2.2 v < vy_p ts (i + 2)
        omega
    · have e : vy_am ts op hd any i V O Pd F = .inl (vy_p ts (i + 1)) := by
        unfold vy_am
        rw [if_neg (fun t => t hk2), if_neg hroom, if_pos q40]
      rw [e]
      exact ⟨fun q => absurd rfl q, fun _ => ⟨vx_fr_trans (vx_fr_mono f2 (fun a k q => vy_Sn_q (vy_Sq_1 q))) (vx_fr_mono f3 (fun a k q => vy_Sn_q (vy_Sq_b q))), rfl, b3⟩⟩
  refine vg_42 hT ?_
  rw [Bb.2.1, Int.toNat_natCast, B49]
  have hk := vy_k2 hkr.2
  refine ⟨by omega, fun q1 => REF ?_, fun q1 => ⟨fun q49 => GO (hk.mp q1) ?_, fun q49 => ⟨by omega, ?_⟩⟩⟩
  · unfold vy_am
    rw [if_pos (fun t => q1 (hk.mpr t))]
  · rintro ⟨-, t, -⟩
    rw [if_pos t] at q49
    omega
  · have hk2 := hk.mp q1
    have hv := hkr.2.2.2.1 hk2
    have hop : op = true := by
      by_cases t : op = true
      · exact t
      · rw [if_neg t] at q49; exact absurd rfl q49
    refine vx_CI_mono (vc_41 hT Bp B48 hv.2.1 hv.2.2) ?_
    rintro r7 h7 _ ⟨rfl, hr7⟩ _
    refine ⟨fun q7 => GO hk2 (fun t => by rcases hr7 with ⟨-, u⟩ | ⟨u, -⟩; exact t.1 u; omega), fun q7 => ?_⟩
    rw [B48, Int.toNat_natCast, Bp.2.1]
    have hnk : ¬ vy_vx Pd (vy_v ts i) < Pd.1 := by rcases hr7 with ⟨u, -⟩ | ⟨-, u⟩; omega; exact u
    have h16 := Bp.2.2.1
    refine ⟨by omega, fun q16 => GO hk2 (fun t => by omega), fun q16 => REF ?_⟩
    unfold vy_am
    rw [if_neg (fun t => t hk2), if_pos ⟨hnk, hop, by omega⟩]
end
section
variable {d i cl sd l : Nat} {h h1 g : ve_H} {ts : vy_T} {V Pd : vy_V} {O : vy_O} {F : vy_F} {L : vy_L} {op : Bool} {at_ : Nat} {pl : Int}
theorem vd_45_end {v1 v2 v3 v4 : Int} {v5 : Option Value} {P : Int → ve_H → Prop} {j m : Nat} {W : vy_V} {A : Nat → Int} {kd e : Int} (hT : vx_T 625 672 g) (B : vy_rs h ts cl sd op i V O Pd F L at_) (hL : L.1 < 6) (S : vy_u4 ts cl (6 * cl + L.1) pl h g j W A m) (hm : m ≤ 4) (hA : ∀ k, m ≤ k → A k = 0)
    (k3 : vx_J g 643 (6 * cl + L.1) = vy_rk kd) (k4 : (kd = 5 ∧ m = 3 ∧ vx_J g 644 (6 * cl + L.1) = e) ∨ (vy_rel kd ∧ m = 2 ∧ vx_J g 644 (6 * cl + L.1) = vy_sr kd))
    (X : ∀ g1, vx_fr (vy_Sz cl 2) h g1 → vy_rs g1 ts cl sd op j W O Pd F (vy_la L kd e pl A) at_ → P 1 g1) : vx_W (d + 1) 45 557 [some (.ref 625), some (.int (vx_i v1)), some (.int (vx_i v2)), some (.int (vx_i v3)), some (.int (vx_i v4)), v5] [] g (vx_RI P) := by
  obtain ⟨Br, Bl, B58, B3, B39⟩ := B
  obtain ⟨s1, s2, s3, s4, s5⟩ := S
  have c42 : vx_J g 625 42 = cl := s3.2.2.2.1
  have hcl := s3.2.2.2.2.1
  have c41 : vx_J g 641 cl = L.1 := (vx_fr_J s1 (by simp [vy_Sr])).trans Bl.1
  refine vg_45_557 hT ?_
  rw [c42, Int.toNat_natCast, c41]
  refine ⟨by omega, by omega, fun h3 e3 T3 => ?_⟩
  have f3 : vx_fr (fun a k => a = 641 ∧ k = cl) g h3 := vx_fr_sJ vx_fr_refl e3 ⟨rfl, rfl⟩
  have Q : vy_rq g (6 * cl + L.1) Pd F kd e pl A := by
    refine ⟨s5, k3, m, hm, s4, fun k h1 _ => hA k h1, ?_, ?_, ?_⟩
    · rintro t; exfalso; rcases k4 with ⟨u, -⟩ | ⟨u, -⟩ <;> omega
    · rintro t; rcases k4 with ⟨u, a, b⟩ | ⟨u, a, b⟩
      · exact ⟨a, b⟩
      · exfalso; omega
    · rintro t; rcases k4 with ⟨u, a, b⟩ | ⟨u, a, b⟩
      · exfalso; omega
      · exact ⟨a, b⟩
  have hx3 : vx_J h3 625 3 = F.1 ∧ vx_J h3 625 4 = F.2 := ⟨(vx_fr_J f3 (by simp)).trans (s2.1.trans Br.2.2.2.2.2.1.1), (vx_fr_J f3 (by simp)).trans (s2.2.trans Br.2.2.2.2.2.1.2)⟩
  refine X h3 (vx_fr_trans (vx_fr_mono s1 (fun a k q => vy_Sz_w hL rfl q)) (vx_fr_mono f3 (fun a k q => vy_Sz_641 q))) ⟨⟨vy_rb_fr s3 f3 (fun k => by simp) (by simp) (by simp), vy_ro_fr (vy_ro_fr Br.2.1 s1 (by simp [vy_Sr])) f3 (by simp), (vx_fr_J f3 (by simp)).trans ((vx_fr_J s1 (by simp [vy_Sr])).trans Br.2.2.1), (vx_fr_J f3 (by simp)).trans ((vx_fr_J s1 (by simp [vy_Sr])).trans Br.2.2.2.1), ⟨Br.2.2.2.2.1.1, (vx_fr_J f3 (by simp)).trans ((vx_fr_J s1 (by simp [vy_Sr])).trans Br.2.2.2.2.1.2.1), Br.2.2.2.2.1.2.2.1, fun p hp => ?_⟩, hx3, Br.2.2.2.2.2.2⟩, vy_rl_add (sd := sd) Bl hL (vx_fr_mono s1 (fun a k q => Or.inr (Or.inl q))) (fun t => t) (fun p hp => ⟨hp, rfl⟩) Q e3, (vx_fr_J f3 (by simp)).trans ((vx_fr_J s1 (by simp [vy_Sr])).trans B58), B3, (vx_fr_J f3 (by simp)).trans ((vx_fr_J s1 (by simp [vy_Sr])).trans B39)⟩
  rw [vx_fr_K f3 (by simp), vx_fr_J f3 (by simp), vx_fr_K s1 (by simp [vy_Sr]), vx_fr_J s1 (by simp [vy_Sr])]
  exact Br.2.2.2.2.1.2.2.2 p hp
theorem vd_45_335 {v1 v2 v3 v4 : Int} {P : Int → ve_H → Prop} {q : Int × Nat × vy_V} (ok : vy_ok ts) (hT : vx_T 625 672 g) (B : vy_rs h ts cl sd op i V O Pd F L at_) (hL : L.1 < 6) (hv : v1 = ((6 * cl + L.1 : Nat) : Int)) (S : vy_u4 ts cl (6 * cl + L.1) pl h g q.2.1 q.2.2 (vy_set (fun _ => 0) 0 q.1) 1) (h4 : vx_rI v4 ∧ (v4 ≠ 0 ↔ vy_k ts i = 3)) (e1 : vy_tm ts false i V = .inr q)
    (X1 : ∀ p g1, vy_re ts i V = .inl p → vx_fr (vy_Sz cl 2) h g1 → vy_rbad p g1 → P 0 g1)
    (X2 : ∀ u g1, vy_re ts i V = .inr u → vx_fr (vy_Sz cl 2) h g1 → vy_rs g1 ts cl sd op u.1 u.2.1 O Pd F (vy_la L u.2.2.1 u.2.2.2.1 pl u.2.2.2.2) at_ → P 1 g1) :
    vx_W (d + 3 + 1) 45 335 [some (.ref 625), some (.int (vx_i v1)), some (.int (vx_i v2)), some (.int (vx_i v3)), some (.int (vx_i v4)), none] [] g (vx_RI P) := by
  have hcl := B.1.1.2.2.2.2.1
  have n1 : vx_J h 625 3 ≠ 1 := by rw [B.1.2.2.2.2.2.1.1]; exact B.1.2.2.2.2.2.2
  have hl := ok.2.1
  have hll : 6 * cl + L.1 < 366 := by omega
  have ev : v1.toNat = 6 * cl + L.1 := by omega
  have hv3 : 0 ≤ v1 ∧ v1 < 366 := by omega
  have X1' : ∀ p g1, vy_re ts i V = .inl p → vx_fr (vy_Sw cl (6 * cl + L.1)) h g1 → vy_rbad p g1 → P 0 g1 := fun p g1 e f b => X1 p g1 e (vx_fr_mono f (fun a k q => vy_Sz_w hL rfl q)) b
  have REF : ∀ (g : ve_H) (j : Nat) (W : vy_V) (A : Nat → Int) (m : Nat), vx_T 625 672 g → vy_u4 ts cl (6 * cl + L.1) pl h g j W A m → vy_re ts i V = .inl (vy_p ts j) → vx_CI (d + 3) 33 [.ref 625] g (fun r14 h14 => vx_T 625 672 h14 → (r14 = 0 ∨ r14 = 1) ∧ P r14 h14) := by
    intro g j W A m Tg S e
    refine vx_CI_mono (vc_33 (d := d + 2) Tg ok S.2.2.1 (by rw [S.2.1.1]; exact n1)) ?_
    rintro r14 h14 _ ⟨rfl, f14, b14⟩ _
    exact ⟨Or.inl rfl, X1' _ h14 e (vx_fr_trans S.1 (vx_fr_mono f14 (fun a k q => vy_Sw_b q))) b14⟩
  -- a relation's sign and second term
  have REL : ¬ (vy_k ts i = 3 ∧ vy_k ts q.2.1 = 5) → vx_CI (d + 3) 43 [.ref 625] g (fun r3 h3 => vx_T 625 672 h3 → ((r3 ≠ 0 → (0 ≤ v1 ∧ v1 < 366) ∧ (∀ h6, h6 = vx_sJ h3 643 v1.toNat 2 → vx_T 625 672 h6 → vx_CI (d + 3) 43 [.ref 625] h6 (fun r7 h7 => vx_T 625 672 h7 → (0 ≤ v1 ∧ v1 < 366) ∧ (∀ h9, h9 = vx_sJ h7 644 v1.toNat r7 → vx_T 625 672 h9 → (∀ h10, h10 = vx_sJ h9 625 10 ((vx_J h9 625 10) + 1) → vx_T 625 672 h10 → vx_CI (d + 3) 39 [.ref 625] h10 (fun r11 h11 => vx_T 625 672 h11 → ((r11 ≠ 0 → vx_CV (d + 3) 44 [.ref 625, .int (vx_i v1), .int (vx_i 1)] h11 (fun h13 => vx_T 625 672 h13 → vx_W (d + 3 + 1) 45 557 [some (.ref 625), some (.int (vx_i v1)), some (.int (vx_i v2)), some (.int (vx_i v3)), some (.int (vx_i v4)), none] [] h13 (vx_RI P))) ∧ (r11 = 0 → P 0 h11)))))))) ∧ (r3 = 0 → vx_CI (d + 3) 33 [.ref 625] h3 (fun r14 h14 => vx_T 625 672 h14 → (r14 = 0 ∨ r14 = 1) ∧ P r14 h14)))) := by
    intro hno
    have e0 : vy_re ts i V = if vy_rel (vy_k ts q.2.1) then
      (match vy_tm ts false (q.2.1 + 1) q.2.2 with
       | .inl p => .inl p
       | .inr u => .inr (u.2.1, u.2.2, vy_k ts q.2.1, vy_k ts u.2.1, vy_set (vy_set (fun _ => 0) 0 q.1) 1 u.1))
      else .inl (vy_p ts q.2.1) := by
      unfold vy_re
      rw [e1]
      exact if_neg hno
    refine vx_CI_mono (vc_43 hT ok S.2.2.1) ?_
    rintro r3 h3 _ ⟨rfl, hr3⟩ _
    rcases hr3 with ⟨hrel, -, hr0⟩ | ⟨hrel, rfl⟩
    · rw [if_pos hrel] at e0
      refine ⟨fun _ => ⟨hv3, fun h6 e6 T6 => ?_⟩, fun t => absurd t hr0⟩
      rw [ev] at e6
      have S6 := vy_u4_43 S e6 (Or.inl rfl)
      refine vx_CI_mono (vc_43 T6 ok S6.2.2.1) ?_
      rintro r7 h7 hr7 ⟨rfl, hq7⟩ _
      have r7e : r7 = vy_sr (vy_k ts q.2.1) := by
        rcases hq7 with ⟨-, t, -⟩ | ⟨t, -⟩
        · exact t
        · exact absurd hrel t
      refine ⟨hv3, fun h9 e9 T9 h10 e10 T10 => ?_⟩
      rw [ev] at e9
      have S9 := vy_u4_43 S6 e9 (Or.inr rfl)
      have S10 := vy_u4_at ok S9 e10 (by omega)
      have a9 : vx_J h9 643 (6 * cl + L.1) = 2 := by rw [e9, vx_J_ne (by simp), e6, vx_J_eq (by decide)]
      have b9 : vx_J h9 644 (6 * cl + L.1) = vy_sr (vy_k ts q.2.1) := by rw [e9, vx_J_eq hr7, r7e]
      have c10 : ∀ b, b = 643 ∨ b = 644 → vx_J h10 b (6 * cl + L.1) = vx_J h9 b (6 * cl + L.1) := fun b hb => by rw [e10, vx_J_ne (by omega)]
      refine vc_39l (d := d) (k0 := 1) ok T10 n1 S10 hv rfl hll (by decide) (fun p g1 e f b => X1' p g1 (by rw [e0, e]) f b) (fun u g1 T13 e f13 S13 => ?_)
      rw [e] at e0
      refine vd_45_end (d := d + 3) (kd := vy_k ts q.2.1) (e := vy_k ts u.2.1) T13 B hL S13 (by decide) (fun k hk => ?_) ?_ (Or.inr ⟨hrel, rfl, ?_⟩) (fun g1 f c => X2 _ g1 e0 f c)
      · rw [vy_set_lt (by omega), vy_set_lt (by omega)]
      · rw [vx_fr_J f13 (by simp [vy_Sr]), c10 643 (Or.inl rfl), a9]
        unfold vy_rk
        rw [if_neg (by omega), if_neg (by omega), if_neg (by omega)]
      · rw [vx_fr_J f13 (by simp [vy_Sr]), c10 644 (Or.inr rfl), b9]
    · exact ⟨fun t => absurd rfl t, fun _ => REF h3 _ _ _ _ hT S (by rw [e0, if_neg hrel])⟩
  have hkr := (vy_kr S.2.2.1.1 S.2.2.1.2.2.1).2
  have k5 : (vx_J g 627 q.2.1 = 5 ∧ vx_J g 629 q.2.1 = 1) ↔ vy_k ts q.2.1 = 5 := by
    obtain ⟨a0, a1, a2, a3, a4, a5, a6, a7, a8, -⟩ := hkr
    constructor
    · intro t
      rcases (by omega : vy_k ts q.2.1 = 0 ∨ vy_k ts q.2.1 = 1 ∨ vy_k ts q.2.1 = 2 ∨ vy_k ts q.2.1 = 3 ∨ vy_k ts q.2.1 = 4 ∨ (5 ≤ vy_k ts q.2.1 ∧ vy_k ts q.2.1 ≤ 9) ∨ (10 ≤ vy_k ts q.2.1 ∧ vy_k ts q.2.1 ≤ 13) ∨ 14 ≤ vy_k ts q.2.1) with u | u | u | u | u | u | u | u
      · have := a0 u; omega
      · have := a1 u; omega
      · have := (a2 u).1; omega
      · have := (a3 u).1; omega
      · have := (a4 u).1; omega
      · have := (a5 u).2; omega
      · have := (a6 u).1; omega
      · have := (a7 u).1; omega
    · intro t
      have := a5 (by omega)
      exact ⟨this.1, by omega⟩
  refine vg_45_335 hT ?_
  rw [S.2.2.1.2.1, Int.toNat_natCast]
  have hq6 : q.2.1 < 602 := by have := S.2.2.1.2.2.1; omega
  refine ⟨h4.1, fun q4 => REL (fun t => (h4.2.mpr t.1) q4), fun q4 => ⟨by omega, fun q5 => REL (fun t => q5 (k5.mpr t.2).1), fun q5 => ⟨by omega, fun q6 => REL (fun t => q6 (k5.mpr t.2).2), fun q6 h46 e46 T46 => ⟨hv3, fun h48 e48 T48 => ?_⟩⟩⟩⟩
  have his := k5.mp ⟨q5, q6⟩
  have hva := h4.2.mp q4
  have e0 : vy_re ts i V = match vy_tm ts false (q.2.1 + 1) q.2.2 with
     | .inl p => .inl p
     | .inr u => if vy_opn (vy_k ts u.2.1) then
         (match vy_tm ts false (u.2.1 + 1) u.2.2 with
          | .inl p => .inl p
          | .inr w => .inr (w.2.1, w.2.2, 5, vy_k ts u.2.1, vy_set (vy_set (vy_set (fun _ => 0) 0 q.1) 1 u.1) 2 w.1))
       else .inl (vy_p ts u.2.1) := by
    unfold vy_re
    rw [e1]
    exact if_pos ⟨hva, his⟩
  rw [← S.2.2.1.2.1] at e46
  have S46 := vy_u4_at ok S e46 (by omega)
  rw [ev] at e48
  have S48 := vy_u4_43 S46 e48 (Or.inl rfl)
  have a48 : vx_J h48 643 (6 * cl + L.1) = 3 := by rw [e48, vx_J_eq (by decide)]
  refine vc_39l (d := d) (k0 := 1) ok T48 n1 S48 hv rfl hll (by decide) (fun p g1 e f b => X1' p g1 (by rw [e0, e]) f b) (fun u g1 T51 e2 f51 S51 => ?_)
  rw [e2] at e0
  have e0 : vy_re ts i V = if vy_opn (vy_k ts u.2.1) then
         (match vy_tm ts false (u.2.1 + 1) u.2.2 with
          | .inl p => .inl p
          | .inr w => .inr (w.2.1, w.2.2, 5, vy_k ts u.2.1, vy_set (vy_set (vy_set (fun _ => 0) 0 q.1) 1 u.1) 2 w.1))
       else .inl (vy_p ts u.2.1) := e0
  have a51 : vx_J g1 643 (6 * cl + L.1) = 3 := (vx_fr_J f51 (by simp [vy_Sr])).trans a48
  -- behind the sign
  have SG : ∀ v5 : Int, vx_rI v5 → (v5 ≠ 0 ↔ vy_opn (vy_k ts u.2.1)) → vx_W (d + 3 + 1) 45 450 [some (.ref 625), some (.int (vx_i v1)), some (.int (vx_i v2)), some (.int (vx_i v3)), some (.int (vx_i v4)), some (.int (vx_i v5))] [] g1 (vx_RI P) := by
    intro v5 hv5 hop
    have hu := S51.2.2.1.2.2.1
    refine vg_45_450 T51 ⟨hv5, fun q5 => ?_, fun q5 => REF g1 _ _ _ _ T51 S51 (by rw [e0, if_neg (fun t => (hop.mpr t) q5)])⟩
    have hopn := hop.mp q5
    rw [if_pos hopn] at e0
    rw [S51.2.2.1.2.1, Int.toNat_natCast]
    refine ⟨by omega, hv3, fun h5 e5 T5 h6 e6 T6 => ?_⟩
    rw [ev] at e5
    have cr : vx_J g1 629 u.2.1 = vy_k ts u.2.1 := by
      have R := (vy_kr S51.2.2.1.1 hu).2
      obtain ⟨-, -, -, -, -, -, -, a7, -⟩ := R
      exact (a7 (by omega)).2.1
    rw [cr] at e5
    have S5 := vy_u4_43 S51 e5 (Or.inr rfl)
    have S6 := vy_u4_at ok S5 e6 (by omega)
    have b5 : vx_J h5 644 (6 * cl + L.1) = vy_k ts u.2.1 := by rw [e5, vx_J_eq (by omega)]
    have a5 : vx_J h5 643 (6 * cl + L.1) = 3 := by rw [e5, vx_J_ne (by simp)]; exact a51
    refine vc_39l (d := d) (k0 := 2) ok T6 n1 S6 hv rfl hll (by decide) (fun p g1 e f b => X1' p g1 (by rw [e0, e]) f b) (fun w g2 T9 e3 f9 S9 => ?_)
    rw [e3] at e0
    refine vd_45_end (d := d + 3) (kd := 5) (e := vy_k ts u.2.1) T9 B hL S9 (by decide) (fun k hk => ?_) ?_ (Or.inl ⟨rfl, rfl, ?_⟩) (fun g1 f c => X2 _ g1 e0 f c)
    · rw [vy_set_lt (by omega), vy_set_lt (by omega), vy_set_lt (by omega)]
    · rw [vx_fr_J f9 (by simp [vy_Sr]), e6, vx_J_ne (by simp), a5]
      rfl
    · rw [vx_fr_J f9 (by simp [vy_Sr]), e6, vx_J_ne (by simp), b5]
  have u6 := S51.2.2.1
  refine vx_CI_mono (vc_34 (s := 43) T51 ok u6 (by omega) rfl) ?_
  rintro r52 h52 _ ⟨rfl, c1⟩ _
  refine ⟨fun t => SG 1 (by decide) (by omega), fun t => vx_CI_mono (vc_34 (s := 45) T51 ok u6 (by omega) rfl) ?_⟩
  rintro r54 h54 _ ⟨rfl, c2⟩ _
  refine ⟨fun t => SG 1 (by decide) (by omega), fun t => vx_CI_mono (vc_34 (s := 42) T51 ok u6 (by omega) rfl) ?_⟩
  rintro r56 h56 _ ⟨rfl, c3⟩ _
  refine ⟨fun t => SG 1 (by decide) (by omega), fun t => vx_CI_mono (vc_34 (s := 47) T51 ok u6 (by omega) rfl) ?_⟩
  rintro r58 h58 _ ⟨rfl, c4⟩ _
  refine ⟨fun t => SG 1 (by decide) (by omega), fun t => vx_CI_mono (vc_34 (s := 37) T51 ok u6 (by omega) rfl) ?_⟩
  rintro r60 h60 _ ⟨rfl, c5⟩ _
  exact ⟨fun t => SG 0 (by decide) (by omega), fun t => SG 1 (by decide) (by omega)⟩
end
section
variable {d i cl sd l : Nat} {h h1 g : ve_H} {ts : vy_T} {V Pd : vy_V} {O : vy_O} {F : vy_F} {L : vy_L} {op : Bool} {at_ : Nat} {pl : Int}
theorem vd_45_at {j : Nat} {any : Bool} {c kr v1 v2 v3 y2 rl : Int} {P : Int → ve_H → Prop} (ho : op = false) (ok : vy_ok ts) (hT : vx_T 625 672 g) (B : vy_rs h ts cl sd op i V O Pd F L at_) (hL : L.1 < 6) (hv : v1 = ((6 * cl + L.1 : Nat) : Int)) (Bg : vy_rr g ts cl sd op j V O Pd F) (fg : vx_fr (fun a k => (a = 660 ∧ k = 6 * cl + L.1) ∨ (a = 625 ∧ k = 10)) h g) (hpl : vx_J g 660 (6 * cl + L.1) = pl) (hy : vx_rI y2 ∧ (y2 ≠ 0 ↔ any = true)) (hc : (c = 0 ∧ kr = 1 ∧ rl = 15) ∨ (c = 1 ∧ kr = 0 ∧ rl = 14 ∧ at_ < 3))
    (X1 : ∀ p g1, vy_am ts op false any j V O Pd F = .inl p → vx_fr (vy_Sz cl 2) h g1 → vy_rbad p g1 → P 0 g1)
    (X2 : ∀ q g1, vy_am ts op false any j V O Pd F = .inr q → vx_fr (vy_Sz cl 2) h g1 → vy_rs g1 ts cl sd op q.1 q.2.1 O q.2.2.2.2.2.2.1 q.2.2.2.2.2.2.2 (vy_la L rl q.2.2.2.2.2.1 pl q.2.2.2.1) (at_ + c.toNat) → P 1 g1) :
    vx_CI (d + 4) 42 [.ref 625, .int (vx_i 0), .int (vx_i y2)] g (fun r3 h3 => vx_T 625 672 h3 → ((r3 ≠ 0 → (∀ h5, h5 = vx_sJ h3 625 58 ((vx_J h3 625 58) + c) → vx_T 625 672 h5 → (0 ≤ v1 ∧ v1 < 366) ∧ (∀ h7, h7 = vx_sJ h5 643 v1.toNat kr → vx_T 625 672 h7 → (0 ≤ v1 ∧ v1 < 366) ∧ (∀ h9, h9 = vx_sJ h7 644 v1.toNat (vx_J h7 625 57) → vx_T 625 672 h9 → (0 ≤ v1 ∧ v1 < 366) ∧ (∀ h11, h11 = vx_sJ h9 661 v1.toNat (vx_J h9 625 50) → vx_T 625 672 h11 → vx_W (d + 4 + 1) 45 234 [some (.ref 625), some (.int (vx_i v1)), some (.int (vx_i v2)), some (.int (vx_i v3)), some (.int (vx_i 0)), none] [] h11 (vx_RI P)))))) ∧ (r3 = 0 → P 0 h3))) := by
  obtain ⟨Br, Bl, B58, B3, B39⟩ := B
  have hcl := Br.1.2.2.2.2.1
  have hll : 6 * cl + L.1 < 366 := by omega
  have hv3 : 0 ≤ v1 ∧ v1 < 366 := by omega
  have ev : v1.toNat = 6 * cl + L.1 := by omega
  have rc : vx_rI ((at_ : Int) + c) := by omega
  have rk : vx_rI kr := by omega
  have fgz : vx_fr (vy_Sz cl 2) h g := vx_fr_mono fg (by
    rintro a k (⟨q1, q2⟩ | ⟨q1, q2⟩)
    · exact Or.inr (Or.inr (Or.inr (Or.inl ⟨Or.inr (Or.inr (Or.inl q1)), by omega, by omega⟩)))
    · exact Or.inl (Or.inl (Or.inl (by omega))))
  refine vx_CI_mono (vd_42 (ho := ho) (d := d) (hd := false) (any := any) hT ok Bg ⟨by decide, fun t => absurd rfl t, fun t => absurd t (by decide)⟩ hy (fun t => absurd t (by decide)) (fun t => absurd t (by decide))) ?_
  rintro r3 h3 _ ⟨f3, p3⟩ T3
  have F3 : vx_fr (vy_Sz cl 2) h h3 := vx_fr_trans fgz (vx_fr_mono f3 (fun a k q => vy_Sz_n q))
  cases e : vy_am ts op false any j V O Pd F with
  | inl p =>
    rw [e] at p3
    obtain ⟨rfl, b⟩ := p3
    exact ⟨fun t => absurd rfl t, fun _ => X1 p h3 e F3 b⟩
  | inr q =>
    rw [e] at p3
    obtain ⟨rfl, C3, A3, c50, c57, -⟩ := p3
    obtain ⟨m1, m2, m3, m4, m5⟩ := vy_am_w e
    rw [vy_am_O e] at C3
    have hO := vy_am_O e
    refine ⟨fun _ h5 e5 T5 => ⟨hv3, fun h7 e7 T7 => ⟨hv3, fun h9 e9 T9 => ⟨hv3, fun h11 e11 T11 => ?_⟩⟩⟩, fun t => absurd t (by decide)⟩
    rw [ev] at e7 e9 e11
    have a58 : vx_J h3 625 58 = at_ := (vx_fr_J f3 (by simp [vy_Sq])).trans ((vx_fr_J fg (by simp)).trans B58)
    rw [a58] at e5
    have f11 : vx_fr (vy_Sf cl (6 * cl + L.1)) h3 h11 := by
      refine vx_fr_sJ (vx_fr_sJ (vx_fr_sJ (vx_fr_sJ vx_fr_refl e5 ?_) e7 ?_) e9 ?_) e11 ?_
      · exact Or.inl ⟨rfl, rfl⟩
      · exact Or.inr (Or.inr (Or.inl ⟨Or.inl rfl, rfl⟩))
      · exact Or.inr (Or.inr (Or.inl ⟨Or.inr (Or.inl rfl), rfl⟩))
      · exact Or.inr (Or.inr (Or.inl ⟨Or.inr (Or.inr rfl), rfl⟩))
    have c58 : vx_J h11 625 58 = (at_ : Int) + c := by
      rw [e11, vx_J_ne (by simp), e9, vx_J_ne (by simp), e7, vx_J_ne (by simp), e5, vx_J_eq rc]
    have c643 : vx_J h11 643 (6 * cl + L.1) = kr := by
      rw [e11, vx_J_ne (by simp), e9, vx_J_ne (by simp), e7, vx_J_eq rk]
    have g57 : vx_J h7 625 57 = vx_J h3 625 57 := by rw [e7, vx_J_ne (by simp), e5, vx_J_ne (by simp)]
    have g50 : vx_J h9 625 50 = vx_J h3 625 50 := by rw [e9, vx_J_ne (by simp), e7, vx_J_ne (by simp), e5, vx_J_ne (by simp)]
    have c644 : vx_J h11 644 (6 * cl + L.1) = (if q.2.2.2.2.2.1 = -1 then 0 else q.2.2.2.2.2.1) := by
      rw [e11, vx_J_ne (by simp), e9, vx_J_eq (vx_rI_J _ _ _), g57, c57]
    have c661 : vx_J h11 661 (6 * cl + L.1) = (q.2.2.2.2.1 : Nat) := by
      rw [e11, vx_J_eq (vx_rI_J _ _ _), g50, c50]
    have d50 : vx_J h11 625 50 = (q.2.2.2.2.1 : Nat) := by rw [vx_fr_J f11 (by simp [vy_Sf]), c50]
    have d42 : vx_J h11 625 42 = cl := by rw [vx_fr_J f11 (by simp [vy_Sf])]; exact C3.1.2.2.2.1
    refine vc_45_234 (d := d + 4) (g0 := h11) (l := 6 * cl + L.1) (m := q.2.2.2.2.1) (A := q.2.2.2.1) hv hll m1.2 hcl (vy_ra_fr A3 f11 (fun k => by simp [vy_Sf])) d50 d42 ?_ _ 0 h11 0 rfl (Nat.zero_le _) rfl T11 vx_fr_refl (fun k hk => absurd hk (by omega))
    intro g1 hx Tg1 fg1 Ag1 ex Tx
    have c41 : vx_J g1 641 cl = L.1 := (vx_fr_J fg1 (by simp)).trans ((show vx_J h11 641 cl = vx_J h3 641 cl by rw [e11, vx_J_ne (by simp), e9, vx_J_ne (by simp), e7, vx_J_ne (by simp), e5, vx_J_ne (by simp)]).trans ((vx_fr_J f3 (by simp [vy_Sq])).trans ((vx_fr_J fg (by simp)).trans Bl.1)))
    rw [c41] at ex
    have fx : vx_fr (fun a k => a = 641 ∧ k = cl) g1 hx := vx_fr_sJ vx_fr_refl ex ⟨rfl, rfl⟩
    have gx : vx_fr (vy_Sf cl (6 * cl + L.1)) h3 hx := vx_fr_trans (vx_fr_trans f11 (vx_fr_mono fg1 (fun a k q => Or.inr (Or.inr (Or.inr q))))) (vx_fr_mono fx (fun a k q => Or.inr (Or.inl q)))
    have gz : vx_fr (vy_Sz cl 2) h3 hx := vx_fr_mono gx (by
      rintro a k (q | q | q | q)
      · exact vy_Sz_58 q
      · exact vy_Sz_641 q
      · exact Or.inr (Or.inr (Or.inr (Or.inl ⟨by omega, by omega, by omega⟩)))
      · exact Or.inr (Or.inr (Or.inr (Or.inr ⟨q.1, by omega, by omega⟩))))
    have p1 : vx_J g1 660 (6 * cl + L.1) = pl := (vx_fr_J fg1 (by simp)).trans ((vx_fr_J f11 (by simp [vy_Sf])).trans ((vx_fr_J f3 (by simp [vy_Sq])).trans hpl))
    have Q : vy_rq g1 (6 * cl + L.1) q.2.2.2.2.2.2.1 q.2.2.2.2.2.2.2 rl q.2.2.2.2.2.1 pl q.2.2.2.1 := by
      refine ⟨p1, ?_, q.2.2.2.2.1, m1.2, Ag1, fun k h1 _ => m2 k h1, fun t => ⟨m1.1, (vx_fr_J fg1 (by simp)).trans c661, (vx_fr_J fg1 (by simp)).trans c644, m5⟩, fun t => ?_, fun t => ?_⟩
      · rw [vx_fr_J fg1 (by simp), c643]
        unfold vy_rk
        rcases hc with ⟨-, u, w⟩ | ⟨-, u, w, -⟩
        · rw [if_neg (by omega), if_pos w]; exact u
        · rw [if_pos w]; exact u
      · exfalso; rcases hc with ⟨-, u, w⟩ | ⟨-, u, w, -⟩ <;> omega
      · exfalso; rcases hc with ⟨-, u, w⟩ | ⟨-, u, w, -⟩ <;> omega
    have fu : vx_fr (vy_Su cl 2 (6 * cl + L.1)) h g1 := by
      refine vx_fr_trans (vx_fr_trans (vx_fr_trans (vx_fr_mono fg ?_) (vx_fr_mono f3 (fun a k q => Or.inl q))) ?_) (vx_fr_mono fg1 (fun a k q => Or.inr (Or.inl (Or.inr (Or.inr q)))))
      · rintro a k (⟨q1, q2⟩ | ⟨q1, q2⟩)
        · exact Or.inr (Or.inl (Or.inr (Or.inl ⟨Or.inr (Or.inr (Or.inl q1)), q2⟩)))
        · exact Or.inl (Or.inl (Or.inl (by omega)))
      · refine vx_fr_sJ (vx_fr_sJ (vx_fr_sJ (vx_fr_sJ vx_fr_refl e5 ?_) e7 ?_) e9 ?_) e11 ?_
        · exact Or.inr (Or.inr ⟨rfl, rfl⟩)
        · exact Or.inr (Or.inl (Or.inr (Or.inl ⟨Or.inl rfl, rfl⟩)))
        · exact Or.inr (Or.inl (Or.inr (Or.inl ⟨Or.inr (Or.inl rfl), rfl⟩)))
        · exact Or.inr (Or.inl (Or.inr (Or.inl ⟨Or.inr (Or.inr (Or.inr rfl)), rfl⟩)))
    refine X2 q hx e (vx_fr_trans F3 gz) ⟨vy_rr_fr C3 gx (fun k => by simp [vy_Sf]) (fun k => by simp [vy_Sf]) (by simp [vy_Sf]), vy_rl_add Bl hL fu m3 m4 Q ex, ?_, ?_, ?_⟩
    · rw [vx_fr_J fx (by simp), vx_fr_J fg1 (by simp), c58]
      rcases hc with ⟨u, -⟩ | ⟨u, -⟩ <;> omega
    · rcases hc with ⟨u, -⟩ | ⟨u, -, -, w⟩ <;> omega
    · rw [vx_fr_J gx (by simp [vy_Sf]), vx_fr_J f3 (by simp [vy_Sq]), vx_fr_J fg (by simp)]
      exact B39
theorem vd_45 (ho : op = false) (ok : vy_ok ts) (hT : vx_T 625 672 h) (B : vy_rs h ts cl sd op i V O Pd F L at_) : vx_CI (d + 5) 45 [.ref 625] h (vd_lR ts cl sd op O (if L.1 < 6 then vy_li ts op i V O Pd F L at_ else .inl (vy_p ts i)) h) := by
  have hcl := B.1.1.2.2.2.2.1
  have n1 : vx_J h 625 3 ≠ 1 := by rw [B.1.2.2.2.2.2.1.1]; exact B.1.2.2.2.2.2.2
  have hl := ok.2.1
  have hi := B.1.1.2.2.1
  have L6 := B.2.1.2.1
  have c42 : vx_J h 625 42 = cl := B.1.1.2.2.2.1
  refine vg_45 hT ?_
  rw [c42, Int.toNat_natCast, B.2.1.1]
  refine ⟨by omega, fun q6 => ⟨by omega, ?_⟩, fun q6 => ?_⟩
  rotate_left
  · rw [if_neg (by omega)]
    refine vx_CI_mono (vc_33 (d := d + 3) hT ok B.1.1 n1) ?_
    rintro r12 h12 _ ⟨rfl, f12, b12⟩ _
    exact ⟨Or.inl rfl, vx_fr_mono f12 (fun a k q => vy_Sz_n (vy_Sn_q (vy_Sq_b q))), rfl, b12⟩
  have hL : L.1 < 6 := by omega
  rw [if_pos hL]
  have hv : 6 * (cl : Int) + (L.1 : Int) = ((6 * cl + L.1 : Nat) : Int) := by omega
  rw [hv]
  have hll : 6 * cl + L.1 < 366 := by omega
  -- from the literal's place on
  have GO : ∀ v2 v3 : Int, vx_rI v2 → vx_rI v3 → (v2 ≠ 0 ↔ vy_k ts i = 33) → (v3 ≠ 0 ↔ (vy_k ts i = 33 ∨ (vy_k ts i = 2 ∧ vy_k ts (i + 1) = 40))) → vx_W (d + 4 + 1) 45 98 [some (.ref 625), some (.int (vx_i ((6 * cl + L.1 : Nat) : Int))), some (.int (vx_i v2)), some (.int (vx_i v3)), none, none] [] h (vx_RI (vd_lR ts cl sd op O (vy_li ts op i V O Pd F L at_) h)) := by
    intro v2 v3 hr2 hr3 h2 h3
    refine vg_45_98 hT ?_
    rw [B.1.1.2.1, Int.toNat_natCast, Int.toNat_natCast, (vy_kr B.1.1.1 hi).1]
    refine ⟨by omega, by omega, fun h3' e3 T3 => ⟨hr3, fun q3 => ?_, fun q3 => ⟨hr2, fun q2 => ⟨fun qa => ?_, fun qa => ?_⟩, fun q2 h19 e19 T19 => ?_⟩⟩⟩
    · -- a relation
      have f3 : vx_fr (fun a k => a = 660 ∧ k = 6 * cl + L.1) h h3' := vx_fr_sJ vx_fr_refl e3 ⟨rfl, rfl⟩
      have B3 : vy_rb h3' ts cl i V := vy_rb_fr B.1.1 f3 (fun k => by simp) (by simp) (by simp)
      have pl3 : vx_J h3' 660 (6 * cl + L.1) = vy_p ts i := by rw [e3, vx_J_eq (by have := ok.2.2.2.1 i hi; omega)]
      have n33 : vy_k ts i ≠ 33 := fun t => (h3.mpr (Or.inl t)) q3
      have n40 : ¬ (vy_k ts i = 2 ∧ vy_k ts (i + 1) = 40) := fun t => (h3.mpr (Or.inr t)) q3
      have e0 : vy_li ts op i V O Pd F L at_ = match vy_re ts i V with
        | .inl p => .inl p
        | .inr q => .inr (q.1, q.2.1, Pd, F, vy_la L q.2.2.1 q.2.2.2.1 (vy_p ts i) q.2.2.2.2, at_) := by
        unfold vy_li
        rw [if_neg n33, if_neg n40]
        rfl
      have S3 : vy_u4 ts cl (6 * cl + L.1) (vy_p ts i) h h3' i V (fun _ => 0) 0 := ⟨vx_fr_mono f3 (fun a k q => Or.inr (Or.inl ⟨Or.inr (Or.inr (Or.inl q.1)), q.2⟩)), ⟨vx_fr_J f3 (by simp), vx_fr_J f3 (by simp)⟩, B3, fun k hk => absurd hk (by omega), pl3⟩
      have RL : ∀ v4 : Int, vx_rI v4 → (v4 ≠ 0 ↔ vy_k ts i = 3) → vx_CI (d + 4) 39 [.ref 625] h3' (fun r8 h8 => vx_T 625 672 h8 → ((r8 ≠ 0 → vx_CV (d + 4) 44 [.ref 625, .int (vx_i ((6 * cl + L.1 : Nat) : Int)), .int (vx_i 0)] h8 (fun h10 => vx_T 625 672 h10 → vx_W (d + 4 + 1) 45 335 [some (.ref 625), some (.int (vx_i ((6 * cl + L.1 : Nat) : Int))), some (.int (vx_i v2)), some (.int (vx_i v3)), some (.int (vx_i v4)), none] [] h10 (vx_RI (vd_lR ts cl sd op O (vy_li ts op i V O Pd F L at_) h)))) ∧ (r8 = 0 → vd_lR ts cl sd op O (vy_li ts op i V O Pd F L at_) h 0 h8))) := by
        intro v4 hr4 h4
        refine vc_39l (d := d + 1) (k0 := 0) (P := vd_lR ts cl sd op O (vy_li ts op i V O Pd F L at_) h) ok T3 n1 S3 rfl rfl hll (by decide) (fun p g1 e f b => ?_) (fun q g1 Tg e f S => ?_)
        · have e2 : vy_re ts i V = .inl p := by unfold vy_re; rw [e]
          rw [e0, e2]
          exact ⟨vx_fr_mono f (fun a k q => vy_Sz_w hL rfl q), rfl, b⟩
        · refine vd_45_335 (d := d + 1) ok Tg B hL rfl S ⟨hr4, h4⟩ e (fun p g1 e f b => ?_) (fun u g1 e f c => ?_)
          · rw [e0, e]; exact ⟨f, rfl, b⟩
          · rw [e0, e]; exact ⟨f, rfl, c⟩
      have k3 : vx_J h3' 627 i = 2 ↔ vy_k ts i = 3 := by
        obtain ⟨a0, a1, a2, a3, a4, a5, a6, a7, a8, -⟩ := (vy_kr B3.1 hi).2
        constructor
        · intro t
          rcases (by omega : vy_k ts i = 0 ∨ vy_k ts i = 1 ∨ vy_k ts i = 2 ∨ vy_k ts i = 3 ∨ vy_k ts i = 4 ∨ (5 ≤ vy_k ts i ∧ vy_k ts i ≤ 9) ∨ (10 ≤ vy_k ts i ∧ vy_k ts i ≤ 13) ∨ 14 ≤ vy_k ts i) with u | u | u | u | u | u | u | u
          · have := a0 u; omega
          · have := a1 u; omega
          · have := (a2 u).1; omega
          · exact u
          · have := (a4 u).1; omega
          · have := (a5 u).1; omega
          · have := (a6 u).1; omega
          · have := (a7 u).1; omega
        · intro t; exact (a3 t).1
      rw [B3.2.1, Int.toNat_natCast]
      exact ⟨by omega, fun q => RL 0 (by decide) ⟨fun t => absurd rfl t, fun t => absurd (k3.mpr t) q⟩, fun q => RL 1 (by decide) ⟨fun _ => k3.mp q, fun _ => by decide⟩⟩
    · -- an atom
      have f3 : vx_fr (fun a k => (a = 660 ∧ k = 6 * cl + L.1) ∨ (a = 625 ∧ k = 10)) h h3' := vx_fr_sJ vx_fr_refl e3 (Or.inl ⟨rfl, rfl⟩)
      have g3 : vx_fr (fun a k => a = 660 ∧ k = 6 * cl + L.1) h h3' := vx_fr_sJ vx_fr_refl e3 ⟨rfl, rfl⟩
      have B3 : vy_rr h3' ts cl sd op i V O Pd F := vy_rr_fr B.1 g3 (fun k => by simp) (fun k => by simp) (by simp)
      have pl3 : vx_J h3' 660 (6 * cl + L.1) = vy_p ts i := by rw [e3, vx_J_eq (by have := ok.2.2.2.1 i hi; omega)]
      have a3 : vx_J h3' 625 58 = at_ := (vx_fr_J g3 (by simp)).trans B.2.2.1
      rw [a3] at qa
      have at3 := B.2.2.2.1
      have n33 : vy_k ts i ≠ 33 := fun t => (h2.mpr t) q2
      have y40 : vy_k ts i = 2 ∧ vy_k ts (i + 1) = 40 := (h3.mp q3).resolve_left n33
      have e0 : vy_li ts op i V O Pd F L at_ = match vy_am ts op false (decide (O.1 = -1)) i V O Pd F with
        | .inl p => .inl p
        | .inr q => .inr (q.1, q.2.1, q.2.2.2.2.2.2.1, q.2.2.2.2.2.2.2, vy_la L 14 q.2.2.2.2.2.1 (vy_p ts i) q.2.2.2.1, at_ + 1) := by
        unfold vy_li
        rw [if_neg n33, if_pos y40, if_neg (by omega)]
        rfl
      have c39 : vx_J h3' 639 cl = (if O.1 = -1 then 0 else O.1 - 4) := (vx_fr_J g3 (by simp)).trans B.2.2.2.2
      have hO := B.1.2.1.2.2
      refine vg_45_147 T3 ?_
      rw [B3.1.2.2.2.1, Int.toNat_natCast cl, c39]
      refine ⟨hr2, fun t => absurd q2 t, fun _ => ⟨by omega, fun q39 => ?_, fun q39 => ?_⟩⟩
      · have hne : ¬ O.1 = -1 := fun t => q39 (if_pos t)
        refine vd_45_at (ho := ho) (d := d) (any := decide (O.1 = -1)) (c := 1) (kr := 0) (rl := 14) ok T3 B hL rfl B3 f3 pl3 ⟨by decide, fun t => absurd rfl t, fun t => absurd (of_decide_eq_true t) hne⟩ (Or.inr ⟨rfl, rfl, rfl, by omega⟩) (fun p g1 e f b => ?_) (fun q g1 e f c => ?_)
        · rw [e0, e]; exact ⟨f, rfl, b⟩
        · rw [e0, e]; exact ⟨f, rfl, c⟩
      · have hne : O.1 = -1 := by
          by_cases t : O.1 = -1
          · exact t
          · rw [if_neg t] at q39; omega
        refine vd_45_at (ho := ho) (d := d) (any := decide (O.1 = -1)) (c := 1) (kr := 0) (rl := 14) ok T3 B hL rfl B3 f3 pl3 ⟨by decide, fun _ => decide_eq_true hne, fun _ => by decide⟩ (Or.inr ⟨rfl, rfl, rfl, by omega⟩) (fun p g1 e f b => ?_) (fun q g1 e f c => ?_)
        · rw [e0, e]; exact ⟨f, rfl, b⟩
        · rw [e0, e]; exact ⟨f, rfl, c⟩
    · -- too many atoms
      have g3 : vx_fr (fun a k => a = 660 ∧ k = 6 * cl + L.1) h h3' := vx_fr_sJ vx_fr_refl e3 ⟨rfl, rfl⟩
      have B3 : vy_rb h3' ts cl i V := vy_rb_fr B.1.1 g3 (fun k => by simp) (by simp) (by simp)
      have a3 : vx_J h3' 625 58 = at_ := (vx_fr_J g3 (by simp)).trans B.2.2.1
      rw [a3] at qa
      have n33 : vy_k ts i ≠ 33 := fun t => (h2.mpr t) q2
      have y40 : vy_k ts i = 2 ∧ vy_k ts (i + 1) = 40 := (h3.mp q3).resolve_left n33
      refine vx_CI_mono (vc_33 (d := d + 3) T3 ok B3 (by rw [vx_fr_J g3 (by simp)]; exact n1)) ?_
      rintro r17 h17 _ ⟨rfl, f17, b17⟩ _
      have e0 : vy_li ts op i V O Pd F L at_ = .inl (vy_p ts i) := by
        unfold vy_li
        rw [if_neg n33, if_pos y40, if_pos (by omega)]
      rw [e0]
      exact ⟨Or.inl rfl, vx_fr_trans (vx_fr_mono g3 (fun a k q => vy_Sz_w hL rfl (Or.inr (Or.inl ⟨Or.inr (Or.inr (Or.inl q.1)), q.2⟩)))) (vx_fr_mono f17 (fun a k q => vy_Sz_n (vy_Sn_q (vy_Sq_b q)))), rfl, b17⟩
    · -- one that must not be
      have y33 := h2.mp q2
      have g3 : vx_fr (fun a k => a = 660 ∧ k = 6 * cl + L.1) h h3' := vx_fr_sJ vx_fr_refl e3 ⟨rfl, rfl⟩
      have B3 : vy_rr h3' ts cl sd op i V O Pd F := vy_rr_fr B.1 g3 (fun k => by simp) (fun k => by simp) (by simp)
      have pl3 : vx_J h3' 660 (6 * cl + L.1) = vy_p ts i := by rw [e3, vx_J_eq (by have := ok.2.2.2.1 i hi; omega)]
      rw [B3.1.2.1] at e19
      have g19 : vx_fr (fun a k => a = 625 ∧ k = 10) h3' h19 := vx_fr_sJ vx_fr_refl e19 ⟨rfl, rfl⟩
      have f19 : vx_fr (fun a k => (a = 660 ∧ k = 6 * cl + L.1) ∨ (a = 625 ∧ k = 10)) h h19 := vx_fr_sJ (vx_fr_sJ vx_fr_refl e3 (Or.inl ⟨rfl, rfl⟩)) e19 (Or.inr ⟨rfl, rfl⟩)
      have C19 : vy_rb h19 ts cl (i + 1) V := vy_rb_at B3.1 e19 (j := i + 1) (by omega) (vy_nx ok hi (by omega)) (by omega)
      have B19 : vy_rr h19 ts cl sd op (i + 1) V O Pd F := by
        obtain ⟨b1, b2, b3, b4, b5, b6, b7⟩ := B3
        refine ⟨C19, vy_ro_fr b2 g19 (by simp), (vx_fr_J g19 (by simp)).trans b3, (vx_fr_J g19 (by simp)).trans b4, ⟨b5.1, (vx_fr_J g19 (by simp)).trans b5.2.1, b5.2.2.1, fun p hp => ?_⟩, ⟨(vx_fr_J g19 (by simp)).trans b6.1, (vx_fr_J g19 (by simp)).trans b6.2⟩, b7⟩
        rw [vx_fr_K g19 (by simp), vx_fr_J g19 (by simp)]
        exact b5.2.2.2 p hp
      have e0 : vy_li ts op i V O Pd F L at_ = match vy_am ts op false true (i + 1) V O Pd F with
       | .inl p => .inl p
       | .inr q => .inr (q.1, q.2.1, q.2.2.2.2.2.2.1, q.2.2.2.2.2.2.2, vy_la L 15 q.2.2.2.2.2.1 (vy_p ts i) q.2.2.2.1, at_) := if_pos y33
      refine vg_45_147 T19 ⟨hr2, fun _ => ?_, fun t => absurd t q2⟩
      refine vd_45_at (ho := ho) (d := d) (any := true) (c := 0) (kr := 1) (rl := 15) ok T19 B hL rfl B19 f19 ((vx_fr_J g19 (by simp)).trans pl3) ⟨by decide, fun _ => rfl, fun _ => by decide⟩ (Or.inl ⟨rfl, rfl, rfl⟩) (fun p g1 e f b => ?_) (fun q g1 e f c => ?_)
      · rw [e0, e]; exact ⟨f, rfl, b⟩
      · rw [e0, e]; exact ⟨f, rfl, c⟩
  refine vx_CI_mono (vc_34 (s := 33) hT ok B.1.1 (by omega) rfl) ?_
  rintro r4 h4 hr4 ⟨rfl, c4⟩ _
  rcases c4 with ⟨rfl, y33⟩ | ⟨rfl, n33⟩
  · exact ⟨fun _ => GO 1 1 (by decide) (by decide) ⟨fun _ => y33, fun _ => by decide⟩ ⟨fun _ => Or.inl y33, fun _ => by decide⟩, fun t => absurd t (by decide)⟩
  · refine ⟨fun t => absurd rfl t, fun _ => ?_⟩
    have hk := vy_k2 (vy_kr B.1.1.1 hi).2
    have GN : ∀ (_ : ¬ (vy_k ts i = 2 ∧ vy_k ts (i + 1) = 40)), vx_W (d + 4 + 1) 45 98 [some (.ref 625), some (.int (vx_i ((6 * cl + L.1 : Nat) : Int))), some (.int (vx_i 0)), some (.int (vx_i 0)), none, none] [] h4 (vx_RI (vd_lR ts cl sd op O (vy_li ts op i V O Pd F L at_) h4)) := fun n40 => GO 0 0 (by decide) (by decide) ⟨fun t => absurd rfl t, fun t => absurd t n33⟩ ⟨fun t => absurd rfl t, fun t => absurd t (by rintro (u | u); exact n33 u; exact n40 u)⟩
    rw [B.1.1.2.1, Int.toNat_natCast, show ((i : Int) + 1).toNat = i + 1 by omega]
    refine ⟨by omega, fun q1 => GN (fun t => q1 (hk.mpr t.1)), fun q1 => ⟨by omega, ?_⟩⟩
    have k2 := hk.mp q1
    have hi1 := vy_nx ok hi (by omega)
    have hs := vy_sgn (vy_kr B.1.1.1 hi1).2 (x := 40) (by omega)
    rw [if_neg (by omega)] at hs
    refine ⟨fun q2 => GN (fun t => q2 (hs.mpr t.2).1), fun q2 => ⟨by omega, fun q3 => GN (fun t => q3 (hs.mpr t.2).2), fun q3 => GO 0 1 (by decide) (by decide) ⟨fun t => absurd rfl t, fun t => absurd t n33⟩ ⟨fun _ => Or.inr ⟨k2, hs.mp ⟨q2, q3⟩⟩, fun _ => by decide⟩⟩⟩
theorem vd_46_5 {h0 : ve_H} {R : vy_R6} {P : Int → ve_H → Prop} (ho : op = false) (ok : vy_ok ts) (F0 : ∀ p g, R = .inl p → vx_fr (vy_Sz cl 2) h0 g → vy_rbad p g → P 0 g) (G0 : ∀ q g, R = .inr q → vx_fr (vy_Sz cl 2) h0 g → vy_rs g ts cl sd op q.1 q.2.1 O q.2.2.1 q.2.2.2.1 q.2.2.2.2.1 q.2.2.2.2.2 → P 1 g) :
    ∀ (m i : Nat) (V Pd : vy_V) (F : vy_F) (L : vy_L) (at_ : Nat) (g : ve_H), m = 6 - L.1 → vx_T 625 672 g → vx_fr (vy_Sz cl 2) h0 g → vy_rs g ts cl sd op i V O Pd F L at_ → R = vy_bo ts op O m i V Pd F L at_ → vx_W (d + 5 + 1) 46 5 [some (.ref 625)] [] g (vx_RI P) := by
  intro m
  induction m with
  | zero =>
    intro i V Pd F L at_ g hm hT hf B hR
    have hL := B.2.1.2.1
    refine vg_46_5 hT (vx_CI_mono (vd_45 (ho := ho) (d := d) ok hT B) ?_)
    rintro r1 h1 _ ⟨f1, p1⟩ T1
    rw [if_neg (by omega)] at p1
    obtain ⟨rfl, b⟩ := p1
    exact ⟨fun t => absurd rfl t, fun _ => F0 _ h1 hR (vx_fr_trans hf f1) b⟩
  | succ m ih =>
    intro i V Pd F L at_ g hm hT hf B hR
    refine vg_46_5 hT (vx_CI_mono (vd_45 (ho := ho) (d := d) ok hT B) ?_)
    rintro r1 h1 _ ⟨f1, p1⟩ T1
    rw [if_pos (by omega)] at p1
    have F1 := vx_fr_trans hf f1
    have hR : R = match vy_li ts op i V O Pd F L at_ with
      | .inl p => .inl p
      | .inr q => if vy_k ts q.1 = 44 then vy_bo ts op O m (q.1 + 1) q.2.1 q.2.2.1 q.2.2.2.1 q.2.2.2.2.1 q.2.2.2.2.2 else .inr q := hR
    cases e : vy_li ts op i V O Pd F L at_ with
    | inl p =>
      rw [e] at p1 hR
      obtain ⟨rfl, b⟩ := p1
      exact ⟨fun t => absurd rfl t, fun _ => F0 p h1 hR F1 b⟩
    | inr q =>
      rw [e] at p1 hR
      obtain ⟨rfl, C1⟩ := p1
      have hR : R = if vy_k ts q.1 = 44 then vy_bo ts op O m (q.1 + 1) q.2.1 q.2.2.1 q.2.2.2.1 q.2.2.2.2.1 q.2.2.2.2.2 else .inr q := hR
      have hLn := vy_li_L e
      refine ⟨fun _ => vx_CI_mono (vc_35 (d := d + 4) (s := 44) T1 ok C1.1.1 (by omega) rfl) ?_, fun t => absurd t (by decide)⟩
      rintro r3 h3 _ (⟨rfl, q44, e3, B3⟩ | ⟨rfl, q44, rfl⟩) T3
      · rw [if_pos q44] at hR
        have f3 : vx_fr (fun a k => a = 625 ∧ k = 10) h1 h3 := vx_fr_sJ vx_fr_refl e3 ⟨rfl, rfl⟩
        obtain ⟨⟨b1, b2, b3, b4, b5, b6, b7⟩, c2, c3, c4, c5⟩ := C1
        refine ⟨fun _ => ih (q.1 + 1) q.2.1 q.2.2.1 q.2.2.2.1 q.2.2.2.2.1 q.2.2.2.2.2 h3 (by omega) T3 (vx_fr_trans F1 (vx_fr_mono f3 (fun a k q => vy_Sz_n (vy_Sn_q (vy_Sq_10 q))))) ⟨⟨B3, vy_ro_fr b2 f3 (by simp), (vx_fr_J f3 (by simp)).trans b3, (vx_fr_J f3 (by simp)).trans b4, ⟨b5.1, (vx_fr_J f3 (by simp)).trans b5.2.1, b5.2.2.1, fun p hp => ?_⟩, ⟨(vx_fr_J f3 (by simp)).trans b6.1, (vx_fr_J f3 (by simp)).trans b6.2⟩, b7⟩, ⟨(vx_fr_J f3 (by simp)).trans c2.1, c2.2.1, fun i hi => vy_rq_fr (c2.2.2 i hi) f3 (by simp)⟩, (vx_fr_J f3 (by simp)).trans c3, c4, (vx_fr_J f3 (by simp)).trans c5⟩ hR, fun t => absurd t (by decide)⟩
        rw [vx_fr_K f3 (by simp), vx_fr_J f3 (by simp)]
        exact b5.2.2.2 p hp
      · rw [if_neg q44] at hR
        exact ⟨fun t => absurd rfl t, fun _ => G0 q h3 hR F1 C1⟩
theorem vd_46 {x : Int} (ho : op = false) (ok : vy_ok ts) (hT : vx_T 625 672 h) (B : vy_rr h ts cl sd op i V O Pd F) (Bl : vy_rl h cl Pd F L) (hL : L.1 = 0) (B39 : vx_J h 639 cl = (if O.1 = -1 then 0 else O.1 - 4)) : vx_CI (d + 6) 46 [.ref 625] h (vd_lR ts cl sd op O (vy_bo ts op O 6 i V Pd F L 0) h) := by
  refine vg_46 hT (fun h1 e1 T1 => ?_)
  have f1 : vx_fr (fun a k => a = 625 ∧ k = 58) h h1 := vx_fr_sJ vx_fr_refl e1 ⟨rfl, rfl⟩
  refine vd_46_5 (ho := ho) (d := d) (h0 := h) (R := vy_bo ts op O 6 i V Pd F L 0) ok (fun p g e f b => ?_) (fun q g e f c => ?_) 6 i V Pd F L 0 h1 (by omega) T1 (vx_fr_mono f1 (fun a k q => vy_Sz_58 q)) ⟨vy_rr_fr B f1 (fun k => by simp) (fun k => by simp) (by simp), ⟨(vx_fr_J f1 (by simp)).trans Bl.1, Bl.2.1, fun i hi => absurd hi (by omega)⟩, by rw [e1, vx_J_eq (by decide)]; rfl, by decide, (vx_fr_J f1 (by simp)).trans B39⟩ rfl
  · rw [e]; exact ⟨f, rfl, b⟩
  · rw [e]; exact ⟨f, rfl, c⟩
end
