/-! Reading an atom: the reference, all together -/
abbrev vy_Sn (cl sd a k : Nat) : Prop := vy_Sq cl a k ∨ (a = 625 ∧ k = 57) ∨ (a = 631 ∧ k = sd) ∨ ((a = 632 ∨ a = 633) ∧ 16 * sd ≤ k ∧ k < 16 * sd + 16)
def vy_rr (h : ve_H) (ts : vy_T) (cl sd : Nat) (op : Bool) (i : Nat) (V : vy_V) (O : vy_O) (Pd : vy_V) (F : vy_F) : Prop := vy_rb h ts cl i V ∧ vy_ro h O ∧ vx_J h 625 48 = sd ∧ vx_J h 625 49 = (if op = true then 1 else 0) ∧ vy_rp h sd Pd ∧ vy_rf h F ∧ F.1 ≠ 1
def vy_aR (ts : vy_T) (cl sd : Nat) (op hd : Bool) (R : vy_R8) (h : ve_H) (r : Int) (h1 : ve_H) : Prop := vx_fr (vy_Sn cl sd) h h1 ∧ match R with
  | .inl p => r = 0 ∧ vy_rbad p h1
  | .inr q => r = 1 ∧ vy_rr h1 ts cl sd op q.1 q.2.1 q.2.2.1 q.2.2.2.2.2.2.1 q.2.2.2.2.2.2.2 ∧ vy_ra h1 q.2.2.2.1 q.2.2.2.2.1 ∧ vx_J h1 625 50 = (q.2.2.2.2.1 : Nat) ∧ vx_J h1 625 57 = (if q.2.2.2.2.2.1 = -1 then 0 else q.2.2.2.2.2.1) ∧ (hd = true → vy_fi h1 ts q.1 q.2.1 q.2.2.1)
section
variable {d i cl sd : Nat} {h : ve_H} {ts : vy_T} {V Pd : vy_V} {O : vy_O} {F : vy_F} {x y : Int} {op : Bool}
theorem vy_Sn_q {a k : Nat} (q : vy_Sq cl a k) : vy_Sn cl sd a k := Or.inl q
theorem vy_Sn_p {a k : Nat} (q : vy_Sp sd a k) : vy_Sn cl sd a k := by
  rcases q with q | q | q
  · exact Or.inl (Or.inl (by omega))
  · exact Or.inr (Or.inr (Or.inl q))
  · exact Or.inr (Or.inr (Or.inr q))
theorem vy_Sn_57 {a k : Nat} (q : a = 625 ∧ k = 57) : vy_Sn cl sd a k := Or.inr (Or.inl q)
theorem vy_Sq_b {a k : Nat} (q : vy_Sb a k) : vy_Sq cl a k := Or.inl (by omega)
theorem vy_Sq_10 {a k : Nat} (q : a = 625 ∧ k = 10) : vy_Sq cl a k := Or.inl (by omega)
theorem vy_Sq_1 {a k : Nat} (q : a = 625 ∧ (k = 10 ∨ k = 50)) : vy_Sq cl a k := Or.inl (by omega)
theorem vy_nt1 {F : vy_F} {p : Int} (h1 : F.1 ≠ 1) : (vy_nt F 2 p).1 ≠ 1 := by
  unfold vy_nt
  split
  · show (2 : Int) ≠ 1; omega
  · exact h1
theorem vc_42 {hd any : Bool} {v1 v2 : Int} (hT : vx_T 625 672 h) (ok : vy_ok ts) (B : vy_rr h ts cl sd op i V O Pd F) (hv1 : vx_rI v1 ∧ (v1 ≠ 0 ↔ hd = true)) (hv2 : vx_rI v2 ∧ (v2 ≠ 0 ↔ any = true)) (hxx : hd = true → any = false) (hfi : hd = true → vy_fi h ts i V O) :
    vx_CI (d + 4) 42 [.ref 625, .int (vx_i v1), .int (vx_i v2)] h (vy_aR ts cl sd op hd (vy_am ts op hd any i V O Pd F) h) := by
  obtain ⟨Bb, Bo, B48, B49, Bp, Bf, F1⟩ := B
  have hl := ok.2.1
  have hi := Bb.2.2.1
  have hkr := vy_kr Bb.1 hi
  have hp := ok.2.2.2.1 i hi
  have n1 : vx_J h 625 3 ≠ 1 := by rw [Bf.1]; exact F1
  have hsd := Bp.1
  have REF : vy_am ts op hd any i V O Pd F = .inl (vy_p ts i) → vx_CI (d + 3) 33 [.ref 625] h (fun r3 h3 => vx_T 625 672 h3 → (r3 = 0 ∨ r3 = 1) ∧ vy_aR ts cl sd op hd (vy_am ts op hd any i V O Pd F) h r3 h3) := by
    intro e
    refine vx_CI_mono (vc_33 (d := d + 2) hT ok Bb n1) ?_
    rintro r3 h3 _ ⟨rfl, f3, b3⟩ _
    rw [e]
    exact ⟨Or.inl rfl, vx_fr_mono f3 (fun a k q => vy_Sn_q (vy_Sq_b q)), rfl, b3⟩
  -- from the name on
  have GO : vy_k ts i = 2 → ¬ (¬ vy_vx Pd (vy_v ts i) < Pd.1 ∧ op = true ∧ 16 ≤ Pd.1) → vx_W (d + 3 + 1) 42 60 [some (.ref 625), some (.int (vx_i v1)), some (.int (vx_i v2)), some (.int (vx_i (i : Int))), none] [] h (vx_RI (vy_aR ts cl sd op hd (vy_am ts op hd any i V O Pd F) h)) := by
    intro hk2 hroom
    have hv := hkr.2.2.2.1 hk2
    refine vg_42_60 hT (fun h1 e1 T1 h2 e2 T2 => ?_)
    rw [Bb.2.1] at e1
    have hi1 := vy_nx ok hi (by omega)
    have B1 := vy_rb_at Bb e1 (j := i + 1) (by omega) hi1 (by omega)
    have g2 : vx_fr (fun a k => a = 625 ∧ k = 50) h1 h2 := vx_fr_sJ vx_fr_refl e2 ⟨rfl, rfl⟩
    have B2 := vy_rb_fr B1 g2 (fun k => by simp [vy_Sq, vy_Sp, vy_Sb]) (by simp [vy_Sq, vy_Sp, vy_Sb]) (by simp [vy_Sq, vy_Sp, vy_Sb])
    have f2 : vx_fr (fun a k => a = 625 ∧ (k = 10 ∨ k = 50)) h h2 := vx_fr_sJ (vx_fr_sJ vx_fr_refl e1 (by omega)) e2 (by omega)
    refine vx_CI_mono (vc_36 (d := d + 1) (s := 40) T2 ok B2 (by rw [vx_fr_J f2 (by simp [vy_Sq, vy_Sp, vy_Sb])]; exact n1) (by omega) rfl) ?_
    rintro r3 h3 _ (⟨rfl, q40, e3, B3⟩ | ⟨rfl, q40, f3, b3⟩) T3
    · refine ⟨fun _ => ?_, fun q => absurd q (by omega)⟩
      have f3 : vx_fr (fun a k => a = 625 ∧ (k = 10 ∨ k = 50)) h h3 := vx_fr_sJ f2 e3 (by omega)
      refine vc_42_86 (d := d) (cl := cl) (h0 := h) (hd := hd) (any := any) (R := vy_ar ts hd any 4 (i + 2) V O (fun _ => 0)) ok n1 hv1 hv2 hxx ?_ ?_ 4 (i + 2) V O (fun _ => 0) h3 none (by omega) T3 (vx_fr_mono f3 (fun a k q => vy_Sq_1 q)) ⟨vx_fr_J f3 (by simp [vy_Sq, vy_Sp, vy_Sb]), vx_fr_J f3 (by simp [vy_Sq, vy_Sp, vy_Sb])⟩ B3 (by rw [e3, vx_J_ne (by simp), e2, vx_J_eq (by omega)]; rfl) (vy_ro_fr Bo f3 (by simp [vy_Sq, vy_Sp, vy_Sb])) (fun k hk => absurd hk (by omega)) (fun t => ⟨(vx_fr_J f3 (by simp [vy_Sq, vy_Sp, vy_Sb])).trans (hfi t).1, (hfi t).2.1, fun v hv => ⟨((hfi t).2.2 v hv).1, ?_⟩⟩) rfl
      · intro g p hR fg bg
        have e : vy_am ts op hd any i V O Pd F = .inl p := by
          unfold vy_am
          rw [if_neg (fun t => t hk2), if_neg hroom, if_neg (fun t => t q40), hR]
        rw [e]
        exact ⟨vx_fr_mono fg (fun a k q => vy_Sn_q q), rfl, bg⟩
      · intro g j W Q A m Tg hR fg xg Bg n50 Cg Ag ffg
        have hm := vy_ar_many 4 (i + 2) V O (fun _ => 0) (by omega) hR
        have hm : 1 ≤ m ∧ m ≤ 4 := hm
        refine vx_CI_mono (vc_36 (d := d + 1) (s := 41) Tg ok Bg (by rw [xg.1]; exact n1) (by omega) rfl) ?_
        rintro r8 h8 _ (⟨rfl, q41, e8, B8⟩ | ⟨rfl, q41, f8, b8⟩) T8
        · refine ⟨fun _ => ⟨by omega, by omega, ?_⟩, fun q => absurd q (by omega)⟩
          have f8 : vx_fr (fun a k => a = 625 ∧ k = 10) g h8 := vx_fr_sJ vx_fr_refl e8 ⟨rfl, rfl⟩
          have F8 : vx_fr (vy_Sq cl) h h8 := vx_fr_trans fg (vx_fr_mono f8 (fun a k q => vy_Sq_10 q))
          have P8 : vy_rp h8 sd Pd := ⟨hsd, (vx_fr_J F8 (by simp [vy_Sq, vy_Sp, vy_Sb])).trans Bp.2.1, Bp.2.2.1, fun p hp => by rw [vx_fr_K F8 (by simp [vy_Sq, vy_Sp, vy_Sb]), vx_fr_J F8 (by simp [vy_Sq, vy_Sp, vy_Sb])]; exact Bp.2.2.2 p hp⟩
          have hf8 : vy_rf h8 F := ⟨(vx_fr_J f8 (by simp [vy_Sq, vy_Sp, vy_Sb])).trans (xg.1.trans Bf.1), (vx_fr_J f8 (by simp [vy_Sq, vy_Sp, vy_Sb])).trans (xg.2.trans Bf.2)⟩
          have s8 : vx_J h8 625 48 = sd := (vx_fr_J F8 (by simp [vy_Sq, vy_Sp, vy_Sb])).trans B48
          have o8 : vx_J h8 625 49 = (if op = true then 1 else 0) := (vx_fr_J F8 (by simp [vy_Sq, vy_Sp, vy_Sb])).trans B49
          have m8 : vx_J h8 625 50 = (m : Nat) := (vx_fr_J f8 (by simp [vy_Sq, vy_Sp, vy_Sb])).trans n50
          have u8 : vx_K h8 630 i = vx_K h 630 i := vx_fr_K F8 (by simp [vy_Sq, vy_Sp, vy_Sb])
          have p8 : vx_J h8 628 i = vy_p ts i := (vx_fr_J F8 (by simp [vy_Sq, vy_Sp, vy_Sb])).trans hkr.1
          rw [Int.toNat_natCast, u8, p8, m8, o8]
          have hroom2 : vy_vx Pd (vy_v ts i) < Pd.1 ∨ op = false ∨ Pd.1 < 16 := by
            by_cases c1 : vy_vx Pd (vy_v ts i) < Pd.1
            · exact Or.inl c1
            · cases op with
              | false => exact Or.inr (Or.inl rfl)
              | true => exact Or.inr (Or.inr (by
                  by_cases c2 : Pd.1 < 16
                  · exact c2
                  · exact absurd ⟨c1, rfl, by omega⟩ hroom))
          refine vx_CI_mono (vc_40 (d := d + 2) (x := vy_v ts i) (op := op) T8 P8 s8 hf8 F1 hv.2.1 hv.2.2 (by omega) (by omega) rfl hroom2) ?_
          rintro r12 h12 hr12 ⟨f12, er, P12, hf12⟩ T12 h13 e13 T13
          have f13 : vx_fr (fun a k => a = 625 ∧ k = 57) h12 h13 := vx_fr_sJ vx_fr_refl e13 ⟨rfl, rfl⟩
          rw [vy_po_am hk2 hroom q40 hR q41]
          have fall : vx_fr (vy_Sn cl sd) h h13 := vx_fr_trans (vx_fr_trans (vx_fr_mono F8 (fun a k q => vy_Sn_q q)) (vx_fr_mono f12 (fun a k q => vy_Sn_p q))) (vx_fr_mono f13 (fun a k q => vy_Sn_57 q))
          have B13 := vy_rb_fr (vy_rb_fr B8 f12 (fun k => by simp [vy_Sq, vy_Sp, vy_Sb]) (by simp [vy_Sq, vy_Sp, vy_Sb]) (by simp [vy_Sq, vy_Sp, vy_Sb])) f13 (fun k => by simp [vy_Sq, vy_Sp, vy_Sb]) (by simp [vy_Sq, vy_Sp, vy_Sb]) (by simp [vy_Sq, vy_Sp, vy_Sb])
          refine ⟨fall, rfl, ⟨B13, vy_ro_fr (vy_ro_fr (vy_ro_fr Cg f8 (by omega)) f12 (by simp [vy_Sq, vy_Sp, vy_Sb])) f13 (by omega), (vx_fr_J f13 (by simp [vy_Sq, vy_Sp, vy_Sb])).trans ((vx_fr_J f12 (by simp [vy_Sq, vy_Sp, vy_Sb])).trans s8), (vx_fr_J f13 (by simp [vy_Sq, vy_Sp, vy_Sb])).trans ((vx_fr_J f12 (by simp [vy_Sq, vy_Sp, vy_Sb])).trans o8), ?_, ⟨(vx_fr_J f13 (by simp [vy_Sq, vy_Sp, vy_Sb])).trans hf12.1, (vx_fr_J f13 (by simp [vy_Sq, vy_Sp, vy_Sb])).trans hf12.2⟩, ?_⟩, vy_ra_fr (vy_ra_fr (vy_ra_fr Ag f8 (fun k => by simp [vy_Sq, vy_Sp, vy_Sb])) f12 (fun k => by simp [vy_Sq, vy_Sp, vy_Sb])) f13 (fun k => by simp [vy_Sq, vy_Sp, vy_Sb]), (vx_fr_J f13 (by simp [vy_Sq, vy_Sp, vy_Sb])).trans ((vx_fr_J f12 (by simp [vy_Sq, vy_Sp, vy_Sb])).trans m8), ?_, fun t => ⟨(vx_fr_J f13 (by simp [vy_Sq, vy_Sp, vy_Sb])).trans ((vx_fr_J f12 (by simp [vy_Sq, vy_Sp, vy_Sb])).trans ((vx_fr_J f8 (by simp [vy_Sq, vy_Sp, vy_Sb])).trans (ffg t).1)), (ffg t).2.1, fun v hv => ⟨((ffg t).2.2 v hv).1, ?_⟩⟩⟩
          · obtain ⟨c0, c1, c2, c3⟩ := P12
            exact ⟨c0, (vx_fr_J f13 (by simp [vy_Sq, vy_Sp, vy_Sb])).trans c1, c2, fun p hp => by rw [vx_fr_K f13 (by simp [vy_Sq, vy_Sp, vy_Sb]), vx_fr_J f13 (by simp [vy_Sq, vy_Sp, vy_Sb])]; exact c3 p hp⟩
          · show (vy_po op Pd F (vy_v ts i) (m : Int) (vy_p ts i)).2.2.1 ≠ 1
            unfold vy_po
            split
            · show (if Pd.2.2 (vy_vx Pd (vy_v ts i)) = (m : Int) then F else vy_nt F 2 (vy_p ts i)).1 ≠ 1
              split
              · exact F1
              · exact vy_nt1 F1
            split
            · exact F1
            · exact vy_nt1 F1
          · rw [e13, vx_J_eq hr12]
            exact er
          · have a1 := ((ffg t).2.2 v hv).2
            have a2 := ok.2.2.2.2.1 j (j + 1) (by omega) B8.2.2.1
            show W.2.2 v < vy_p ts (j + 1)
            omega
        · have e : vy_am ts op hd any i V O Pd F = .inl (vy_p ts j) := by
            unfold vy_am
            rw [if_neg (fun t => t hk2), if_neg hroom, if_neg (fun t => t q40), hR]
            exact if_pos q41
          rw [e]
          exact ⟨fun q => absurd rfl q, fun _ => ⟨vx_fr_trans (vx_fr_mono fg (fun a k q => vy_Sn_q q)) (vx_fr_mono f8 (fun a k q => vy_Sn_q (vy_Sq_b q))), rfl, b8⟩⟩
      · have a1 := ((hfi t).2.2 v hv).2
        have a2 := ok.2.2.2.2.1 i (i + 2) (by omega) B3.2.2.1
        show V.2.2 v < vy_p ts (i + 2)
        omega
    · have e : vy_am ts op hd any i V O Pd F = .inl (vy_p ts (i + 1)) := by
        unfold vy_am
        rw [if_neg (fun t => t hk2), if_neg hroom, if_pos q40]
      rw [e]
      exact ⟨fun q => absurd rfl q, fun _ => ⟨vx_fr_trans (vx_fr_mono f2 (fun a k q => vy_Sn_q (vy_Sq_1 q))) (vx_fr_mono f3 (fun a k q => vy_Sn_q (vy_Sq_b q))), rfl, b3⟩⟩
  refine vg_42 hT ?_
  rw [Bb.2.1, Int.toNat_natCast, B49]
  have hk := vy_k2 hkr.2
  refine ⟨by omega, fun q1 => REF ?_, fun q1 => ⟨fun q49 => GO (hk.mp q1) ?_, fun q49 => ⟨by omega, ?_⟩⟩⟩
  · unfold vy_am
    rw [if_pos (fun t => q1 (hk.mpr t))]
  · rintro ⟨-, t, -⟩
    rw [if_pos t] at q49
    omega
  · have hk2 := hk.mp q1
    have hv := hkr.2.2.2.1 hk2
    have hop : op = true := by
      by_cases t : op = true
      · exact t
      · rw [if_neg t] at q49; exact absurd rfl q49
    refine vx_CI_mono (vc_41 hT Bp B48 hv.2.1 hv.2.2) ?_
    rintro r7 h7 _ ⟨rfl, hr7⟩ _
    refine ⟨fun q7 => GO hk2 (fun t => by rcases hr7 with ⟨-, u⟩ | ⟨u, -⟩; exact t.1 u; omega), fun q7 => ?_⟩
    rw [B48, Int.toNat_natCast, Bp.2.1]
    have hnk : ¬ vy_vx Pd (vy_v ts i) < Pd.1 := by rcases hr7 with ⟨u, -⟩ | ⟨-, u⟩; omega; exact u
    have h16 := Bp.2.2.1
    refine ⟨by omega, fun q16 => GO hk2 (fun t => by omega), fun q16 => REF ?_⟩
    unfold vy_am
    rw [if_neg (fun t => t hk2), if_pos ⟨hnk, hop, by omega⟩]
end
