/-! Reading an atom: the class, all together -/
abbrev vy_Sm (o pi : Nat) (op : Bool) (a k : Nat) : Prop := vy_Sa o a k ∨ (a = 7 ∧ k = 10) ∨ (op = true ∧ ((a = pi ∧ k = 6) ∨ a = vx_r pi 0 ∨ a = vx_r pi 1))
def vy_cr (h : ve_H) (ts : vy_T) (o pi : Nat) (op : Bool) (i : Nat) (V : vy_V) (O : vy_O) (Pd : vy_V) (F : vy_F) : Prop := vy_cb h ts o i V ∧ vy_co h o O ∧ ve_R h 7 6 = some pi ∧ vx_J h 7 7 = (if op = true then 1 else 0) ∧ vy_cp h pi Pd ∧ vy_cf h F
def vy_aP (ts : vy_T) (o pi : Nat) (op : Bool) (R : vy_R8) (h : ve_H) (r : Int) (h1 : ve_H) : Prop := vx_fr (vy_Sm o pi op) h h1 ∧ match R with
  | .inl p => r = 0 ∧ vy_bad p h1
  | .inr q => r = 1 ∧ vy_cr h1 ts o pi op q.1 q.2.1 q.2.2.1 q.2.2.2.2.2.2.1 q.2.2.2.2.2.2.2 ∧ (∀ k, k < 4 → vx_K h1 17 k = q.2.2.2.1 k) ∧ vx_J h1 7 10 = q.2.2.2.2.2.1
/-- a rule's cells lie apart from a program's, and from the reader's -/
theorem vy_opk : (List.range 625).all (fun a => Nat.blt a 1 || (!(vx_ka a).beq 7 || (Nat.ble 8 a && [1, 8, 9, 10, 11, 12, 13, 14].all (fun k => Nat.ble 9 (vx_r a k) && (!(vx_r a k).beq 17 && (!(vx_r a k).beq 18 && (!(vx_r a k).beq 19 && !(vx_r a k).beq 20))))))) = true := by decide +kernel
section
variable {d i o pi : Nat} {h : ve_H} {ts : vy_T} {V Pd : vy_V} {O : vy_O} {F : vy_F} {x y : Int} {op : Bool}
theorem vy_on5 (ho : vx_o 1 625 7 o) (hp : vx_o 1 625 5 pi) : o ≠ pi ∧ o ≠ vx_r pi 0 ∧ o ≠ vx_r pi 1 ∧ pi ≠ vx_r pi 0 ∧ pi ≠ vx_r pi 1 ∧ vx_r pi 0 ≠ vx_r pi 1 := by
  have k := ho.2
  have k5 := hp.2
  have k0 := (vx_f5_0 hp).2.1.2
  have k1 := (vx_f5_1 hp).2.1.2
  refine ⟨?_, ?_, ?_, ?_, ?_, ?_⟩
  · intro e; rw [e, k5] at k; omega
  · intro e; rw [e, k0] at k; omega
  · intro e; rw [e, k1] at k; omega
  · intro e; rw [e, k0] at k5; omega
  · intro e; rw [e, k1] at k5; omega
  · intro e; rw [e, k1] at k0; omega
theorem vy_cp_fr {h1 : ve_H} {S : Nat → Nat → Prop} (C : vy_cp h pi Pd) (f : vx_fr S h h1) (hs : ¬ S pi 6 ∧ ∀ k, ¬ S (vx_r pi 0) k ∧ ¬ S (vx_r pi 1) k) : vy_cp h1 pi Pd :=
  ⟨C.1, (vx_fr_J f hs.1).trans C.2.1, C.2.2.1, fun p hp => ⟨(vx_fr_K f (hs.2 p).1).trans (C.2.2.2 p hp).1, (vx_fr_J f (hs.2 p).2).trans (C.2.2.2 p hp).2.1, (C.2.2.2 p hp).2.2⟩⟩
theorem vy_ar_many {hd any : Bool} : ∀ (m i : Nat) (V : vy_V) (O : vy_O) (A : Nat → Int) {q : Nat × vy_V × vy_O × (Nat → Int) × Nat}, m ≤ 4 → vy_ar ts hd any m i V O A = .inr q → 1 ≤ q.2.2.2.2 ∧ q.2.2.2.2 ≤ 4
  | 0, i, V, O, A, q, _, e => by cases e
  | m + 1, i, V, O, A, q, hm, e => by
    unfold vy_ar at e
    split at e
    · split at e
      · cases e
      split at e
      · cases e
      split at e
      · cases e
      split at e
      · cases e
      split at e
      · cases e
      split at e
      · exact vy_ar_many m _ _ _ _ (by omega) e
      · cases e
        show 1 ≤ 4 - m ∧ 4 - m ≤ 4
        omega
    · split at e
      · cases e
      split at e
      · exact vy_ar_many m _ _ _ _ (by omega) e
      · cases e
        show 1 ≤ 4 - m ∧ 4 - m ≤ 4
        omega
theorem vc_157 {rl : Int} {hd any : Bool} (hT : vx_T 1 625 h) (ok : vy_ok ts) (B : vy_cr h ts o pi op i V O Pd F) (hr : vx_rI rl) (hhd : hd = true ↔ rl = 16) (ha : any = true ↔ (rl = 15 ∨ (rl = 14 ∧ O.1 = -1))) :
    vx_CI (d + 3) 157 [.ref 7, .int (vx_i rl)] h (vy_aP ts o pi op (vy_am ts op hd any i V O Pd F) h) := by
  obtain ⟨Bb, Bo, B6, B7, Bp, Bf⟩ := B
  have hl := ok.2.1
  have hi := Bb.2.2.1
  have ho := Bb.2.2.2.2.1
  have hpi := Bp.1
  have n := vy_on ho
  have n5 := vy_on5 ho hpi
  have np := vy_pn hpi
  have nm := vy_nm hpi
  have hp := ok.2.2.2.1 i hi
  have hkc := vy_kc Bb.1 hi
  -- from the name on: g is the heap behind it, nmd what is named
  have LOOP : ∀ (g : ve_H) (nmd : Int), vx_T 1 625 g → vx_fr (vy_Sm o pi op) h g → vy_k ts i = 2 → ¬ (¬ vy_vx Pd (vy_v ts i) < Pd.1 ∧ op = true ∧ 16 ≤ Pd.1) → vy_cb g ts o i V → vy_co g o O → ve_R g 7 6 = some pi → vx_J g 7 7 = (if op = true then 1 else 0) → vy_cf g F → vx_J g 7 10 = nmd →
      (∀ (g2 : ve_H) (m : Nat), vx_T 1 625 g2 → vx_fr (vy_Sa o) g g2 → 1 ≤ m → m ≤ 4 → vy_cf g2 F → ∀ (Q : Int × vy_V × vy_F), vy_po op Pd F (vy_v ts i) (m : Int) (vy_p ts i) = Q → vx_CV (d + 2) 158 [.ref 7, .int (vx_i (m : Int)), .int (vx_i (vy_p ts i))] g2 (fun h5 => vx_fr (fun a k => (a = 7 ∧ (k = 11 ∨ k = 12)) ∨ (op = true ∧ a = vx_r pi 1)) g2 h5 ∧ vy_cp h5 pi Q.2.1 ∧ vy_cf h5 Q.2.2)) →
      (∀ m : Int, nmd = (vy_po op Pd F (vy_v ts i) m (vy_p ts i)).1) →
      ∀ h9, h9 = vx_sJ g 7 9 ((vx_J g 7 9) + 1) → vx_T 1 625 h9 → vx_CI (d + 2) 165 [.ref 7, .int (vx_i 40)] h9 (fun r10 h10 => vx_T 1 625 h10 → ((r10 ≠ 0 → vx_CV (d + 2) 218 [.ref 17, .long (vx_l 0)] h10 (fun h12 => vx_T 1 625 h12 → vx_W (d + 2 + 1) 157 131 [some (.ref 7), some (.int (vx_i rl)), some (.int (vx_i (vy_p ts i))), some (.int (vx_i 0)), some (.int (vx_i 1)), some (.int (vx_i 0)), none] [] h12 (vx_RI (vy_aP ts o pi op (vy_am ts op hd any i V O Pd F) h)))) ∧ (r10 = 0 → vy_aP ts o pi op (vy_am ts op hd any i V O Pd F) h 0 h10))) := by
    intro g nmd Tg fg hk2 hroom Bg Cg g6 g7 Fg gn CHK hnm h9 e9 T9
    rw [Bg.2.1] at e9
    have B9 := vy_cb_at Bg e9 (j := i + 1) (by omega) (vy_nx ok hi (by omega)) (by omega)
    have f9 : vx_fr (fun a k => a = 7 ∧ k = 9) g h9 := vx_fr_sJ vx_fr_refl e9 ⟨rfl, rfl⟩
    refine vx_CI_mono (vc_165 T9 ok B9 (by omega) (by omega)) ?_
    rintro r10 h10 _ (⟨rfl, q40, e10, B10⟩ | ⟨rfl, q40, f10, b10⟩) T10
    · refine ⟨fun _ => ?_, fun q => absurd q (by omega)⟩
      have f10 : vx_fr (fun a k => a = 7 ∧ k = 9) g h10 := vx_fr_sJ f9 e10 ⟨rfl, rfl⟩
      refine vx_CV_mono (vc_218 (by decide +kernel) T10 (by omega)) ?_
      rintro h12 ⟨f12, z12⟩ T12
      have F12 : vx_fr (vy_Sa o) g h12 := vx_fr_trans (vx_fr_mono f10 (by intro a k q; omega)) (vx_fr_mono f12 (by intro a k q; omega))
      have B12 := vy_cb_fr B10 f12 (fun k => by omega) (by omega) (by omega) (by omega)
      refine vc_157_131 (d := d + 2) (o := o) (h0 := g) (hd := hd) (any := any) (R := vy_ar ts hd any 4 (i + 2) V O (fun _ => 0)) (first := vy_p ts i) ok hr hhd ?_ ?_ (by omega) 4 (i + 2) V O (fun _ => 0) h12 0 0 none (by omega) (by omega) rfl T12 F12 ⟨(vx_fr_J f12 (by omega)).trans (vx_fr_J f10 (by omega)), (vx_fr_J f12 (by omega)).trans (vx_fr_J f10 (by omega))⟩ B12 (vy_co_fr (vy_co_fr Cg f10 (by omega)) f12 (by omega)) (fun k hk => z12 k (by rw [show vx_za 17 = 4 by decide +kernel]; exact hk)) ha rfl
      · intro g3 p hR f3 b3
        have e : vy_am ts op hd any i V O Pd F = .inl p := by
          unfold vy_am
          rw [if_neg (fun t => t hk2), if_neg hroom, if_neg (fun t => t q40), hR]
        rw [e]
        exact ⟨vx_fr_trans fg (vx_fr_mono f3 (by intro a k q; omega)), rfl, b3⟩
      · intro g3 j W Q A m T3 hR f3 x3 B3 C3 A3
        have hm := vy_ar_many 4 (i + 2) V O (fun _ => 0) (by omega) hR
        have hm : 1 ≤ m ∧ m ≤ 4 := hm
        have Fg3 : vy_cf g3 F := ⟨x3.1.trans Fg.1, x3.2.trans Fg.2⟩
        refine vx_CV_mono (CHK g3 m T3 f3 hm.1 hm.2 Fg3 _ rfl) ?_
        rintro h5 ⟨f5, P5, F5⟩ T5
        have B5 := vy_cb_fr B3 f5 (fun k => by omega) (by omega) (by omega) (by omega)
        have C5 := vy_co_fr C3 f5 (by omega)
        have fall : vx_fr (vy_Sm o pi op) h h5 := vx_fr_trans (vx_fr_trans fg (vx_fr_mono f3 (by intro a k q; omega))) (vx_fr_mono f5 (by
          intro a k q
          rcases q with q | q
          · omega
          · exact Or.inr (Or.inr ⟨q.1, Or.inr (Or.inr q.2)⟩)))
        refine vx_CI_mono (vc_165 T5 ok B5 (by omega) (by omega)) ?_
        rintro r6 h6 _ (⟨rfl, q41, e6, B6'⟩ | ⟨rfl, q41, f6, b6⟩) T6
        · have f6 : vx_fr (fun a k => a = 7 ∧ k = 9) h5 h6 := vx_fr_sJ vx_fr_refl e6 ⟨rfl, rfl⟩
          have fr6 : vx_fr (vy_Sm o pi op) h h6 := vx_fr_trans fall (vx_fr_mono f6 (by intro a k q; omega))
          have C6 := vy_co_fr C5 f6 (by omega)
          have P6 := vy_cp_fr P5 f6 ⟨by omega, fun k => by omega⟩
          have F6 : vy_cf h6 _ := ⟨(vx_fr_J f6 (by omega)).trans F5.1, (vx_fr_J f6 (by omega)).trans F5.2⟩
          have r6 : ve_R h6 7 6 = some pi := (vx_fr_R f6 (by omega)).trans ((vx_fr_R f5 (by omega)).trans ((vx_fr_R f3 (by omega)).trans g6))
          have o6 : vx_J h6 7 7 = (if op = true then 1 else 0) := (vx_fr_J f6 (by omega)).trans ((vx_fr_J f5 (by omega)).trans ((vx_fr_J f3 (by omega)).trans g7))
          have n6 : vx_J h6 7 10 = nmd := (vx_fr_J f6 (by omega)).trans ((vx_fr_J f5 (by omega)).trans ((vx_fr_J f3 (by omega)).trans gn))
          have A6 : ∀ k, k < 4 → vx_K h6 17 k = A k := fun k hk => (vx_fr_K f6 (by omega)).trans ((vx_fr_K f5 (by omega)).trans (A3 k hk))
          rw [vy_po_am hk2 hroom q40 hR q41]
          exact ⟨Or.inr rfl, fr6, rfl, ⟨B6', C6, r6, o6, P6, F6⟩, A6, n6.trans (hnm _)⟩
        · have e : vy_am ts op hd any i V O Pd F = .inl (vy_p ts j) := by
            unfold vy_am
            rw [if_neg (fun t => t hk2), if_neg hroom, if_neg (fun t => t q40), hR]
            exact if_pos q41
          rw [e]
          exact ⟨Or.inl rfl, vx_fr_trans fall (vx_fr_mono f6 (by intro a k q; omega)), rfl, b6⟩
    · have e : vy_am ts op hd any i V O Pd F = .inl (vy_p ts (i + 1)) := by
        unfold vy_am
        rw [if_neg (fun t => t hk2), if_neg hroom, if_pos q40]
      rw [e]
      exact ⟨fun q => absurd rfl q, fun _ => ⟨vx_fr_trans (vx_fr_trans fg (vx_fr_mono f9 (by intro a k q; omega))) (vx_fr_mono f10 (by intro a k q; omega)), rfl, b10⟩⟩
  -- one step to what is named
  have NAME : ∀ (g h7 : ve_H) (r6 : Int), vx_rI r6 → h7 = vx_sJ g 7 10 r6 → vx_fr (vy_Sm o pi op) h g → vy_cb g ts o i V → vy_co g o O → ve_R g 7 6 = some pi → vx_J g 7 7 = (if op = true then 1 else 0) → vy_cf g F → vx_fr (vy_Sm o pi op) h h7 ∧ vy_cb h7 ts o i V ∧ vy_co h7 o O ∧ ve_R h7 7 6 = some pi ∧ vx_J h7 7 7 = (if op = true then 1 else 0) ∧ vy_cf h7 F ∧ vx_J h7 7 10 = r6 ∧ vx_fr (fun a k => a = 7 ∧ k = 10) g h7 := by
    intro g h7 r6 hr6 e7 fg Bg Cg g6 g7 Fg
    have f7 : vx_fr (fun a k => a = 7 ∧ k = 10) g h7 := vx_fr_sJ vx_fr_refl e7 ⟨rfl, rfl⟩
    exact ⟨vx_fr_trans fg (vx_fr_mono f7 (by intro a k q; omega)), vy_cb_fr Bg f7 (fun k => by omega) (by omega) (by omega) (by omega), vy_co_fr Cg f7 (by omega), (vx_fr_R f7 (by omega)).trans g6, (vx_fr_J f7 (by omega)).trans g7, ⟨(vx_fr_J f7 (by omega)).trans Fg.1, (vx_fr_J f7 (by omega)).trans Fg.2⟩, by rw [e7, vx_J_eq hr6], f7⟩
  refine vg_157 hT (vx_CI_mono (vc_163 hT ok Bb) ?_)
  rintro r1 h1 _ ⟨rfl, rfl⟩ _
  refine vx_CI_mono (vc_162 hT ok Bb) ?_
  rintro r2 h2 _ ⟨rfl, rfl⟩ _
  refine ⟨fun hk2 => ⟨pi, B6, hpi, ?_⟩, fun hk2 => ?_⟩
  · rw [Bb.2.1, Int.toNat_natCast, hkc.2.2]
    have hvr : vx_rL (vy_v ts i) := by rw [← hkc.2.2]; exact vx_rL_K _ _ _
    refine ⟨by omega, vx_CI_mono (vc_136 hT Bp hvr) ?_⟩
    rintro r6 h6 hr6 ⟨rfl, c6⟩ _ h7 e7 T7
    obtain ⟨f7, B7', C7, R7, O7, F7, n7, g7⟩ := NAME h6 h7 r6 hr6 e7 vx_fr_refl Bb Bo B6 B7 Bf
    have P7 : vy_cp h7 pi Pd := vy_cp_fr Bp g7 ⟨by omega, fun k => by omega⟩
    rcases c6 with ⟨c1, rfl⟩ | ⟨c1, rfl⟩
    · -- a known one
      refine ⟨fun _ => LOOP h7 _ T7 f7 hk2 (fun t => t.1 c1) B7' C7 R7 O7 F7 n7 ?_ (fun m => by unfold vy_po; rw [if_pos c1]), fun q => absurd q (by omega)⟩
      intro g2 m T2 f2 hm1 hm4 F2 Q hQ
      unfold vy_po at hQ
      rw [if_pos c1] at hQ
      have P2 : vy_cp g2 pi Pd := vy_cp_fr P7 f2 ⟨by omega, fun k => by omega⟩
      have ar := P2.2.2.2 _ c1
      have nn : vx_J g2 7 10 = (vy_vx Pd (vy_v ts i) : Nat) := (vx_fr_J f2 (by omega)).trans n7
      have h16 := P2.2.2.1
      refine vg_158 (d := d + 1) T2 ?_
      rw [nn, Int.toNat_natCast]
      refine ⟨fun _ => ⟨pi, (vx_fr_R f2 (by omega)).trans R7, hpi, by omega, ?_⟩, fun q => absurd q (by omega)⟩
      rw [ar.2.1]
      refine ⟨fun _ => ⟨by omega, by omega, fun qm => ?_, fun qm => ?_⟩, fun q => absurd q (by omega)⟩
      · rw [if_pos qm] at hQ
        subst hQ
        exact ⟨vx_fr_refl, P2, F2⟩
      · rw [if_neg qm] at hQ
        subst hQ
        refine vx_CV_mono (vc_167 T2 F2 (by omega) (by omega)) ?_
        rintro h8 ⟨f8, F8⟩ _
        exact ⟨vx_fr_mono f8 (by intro a k q; omega), vy_cp_fr P2 f8 ⟨by omega, fun k => by omega⟩, F8⟩
    · refine ⟨fun q => absurd rfl q, fun _ => ?_⟩
      rw [O7]
      refine ⟨fun qo => ?_, fun qo => ⟨pi, R7, hpi, ?_⟩⟩
      · -- unknown, and none is taken
        have hop : ¬ op = true := fun t => by rw [if_pos t] at qo; omega
        refine LOOP h7 _ T7 f7 hk2 (fun t => hop t.2.1) B7' C7 R7 O7 F7 n7 ?_ (fun m => by unfold vy_po; rw [if_neg (by omega), if_neg hop])
        intro g2 m T2 f2 hm1 hm4 F2 Q hQ
        unfold vy_po at hQ
        rw [if_neg (by omega), if_neg hop] at hQ
        subst hQ
        have P2 : vy_cp g2 pi Pd := vy_cp_fr P7 f2 ⟨by omega, fun k => by omega⟩
        refine vg_158 (d := d + 1) T2 ?_
        rw [show vx_J g2 7 10 = -1 from (vx_fr_J f2 (by omega)).trans n7]
        refine ⟨fun q => absurd rfl q, fun _ => vx_CV_mono (vc_167 T2 F2 (by omega) (by omega)) ?_⟩
        rintro h8 ⟨f8, F8⟩ _
        exact ⟨vx_fr_mono f8 (by intro a k q; omega), vy_cp_fr P2 f8 ⟨by omega, fun k => by omega⟩, F8⟩
      · -- unknown, and taken
        have hop : op = true := by
          by_cases t : op = true
          · exact t
          · rw [if_neg t] at qo; exact absurd rfl qo
        have h16 := P7.2.2.1
        rw [B7'.2.1, Int.toNat_natCast, (vy_kc B7'.1 hi).2.2]
        refine ⟨by omega, vg_137 hpi T7 ?_⟩
        rw [P7.2.1, Int.toNat_natCast]
        refine ⟨fun q16 => ⟨by omega, fun h3 e3 T3 => ?_⟩, fun q16 T20 h21 e21 T21 => ?_⟩
        · have c3 : vx_J h3 pi 6 = Pd.1 := by rw [e3, vx_J_sK, P7.2.1]
          rw [c3, Int.toNat_natCast]
          refine ⟨by omega, fun h5 e5 T5 h8 e8 T8 => ?_⟩
          have c5 : vx_J h5 pi 6 = Pd.1 := by rw [e5, vx_J_ne (by omega), c3]
          rw [c5] at e8
          have c8 : vx_J h8 pi 6 = (Pd.1 : Int) + 1 := by rw [e8, vx_J_eq (by omega)]
          rw [c8]
          have f8 : vx_fr (fun a k => (a = pi ∧ k = 6) ∨ a = vx_r pi 0 ∨ a = vx_r pi 1) h7 h8 := vx_fr_sJ (vx_fr_sJ (vx_fr_sK vx_fr_refl e3 (by omega)) e5 (by omega)) e8 (by omega)
          refine ⟨by omega, fun T20 h21 e21 T21 => ⟨fun _ => ?_, fun q => absurd q (by omega)⟩⟩
          have F8 : vx_fr (vy_Sm o pi op) h6 h8 := vx_fr_trans f7 (vx_fr_mono f8 (by intro a k q; exact Or.inr (Or.inr ⟨hop, q⟩)))
          obtain ⟨f21, B21, C21, R21, O21, F21, n21, g21⟩ := NAME h8 h21 _ (by omega) e21 F8 (vy_cb_fr B7' f8 (fun k => by omega) (by omega) (by omega) (by omega)) (vy_co_fr C7 f8 (by omega)) ((vx_fr_R f8 (by omega)).trans R7) ((vx_fr_J f8 (by omega)).trans O7) ⟨(vx_fr_J f8 (by omega)).trans F7.1, (vx_fr_J f8 (by omega)).trans F7.2⟩
          refine LOOP h21 _ T21 f21 hk2 (by omega) B21 C21 R21 O21 F21 n21 ?_ (fun m => by unfold vy_po; rw [if_neg (by omega), if_pos hop]; show _ = (Pd.1 : Int); omega)
          intro g2 m T2 f2 hm1 hm4 F2 Q hQ
          unfold vy_po at hQ
          rw [if_neg (by omega), if_pos hop] at hQ
          subst hQ
          have nn : vx_J g2 7 10 = Pd.1 := by rw [vx_fr_J f2 (by omega), n21]; omega
          have z0 : vx_J g2 (vx_r pi 1) Pd.1 = 0 := by rw [vx_fr_J f2 (by omega), vx_fr_J g21 (by omega), e8, vx_J_ne (by omega), e5, vx_J_eq (by omega)]
          refine vg_158 (d := d + 1) T2 ?_
          rw [nn, Int.toNat_natCast]
          refine ⟨fun _ => ⟨pi, (vx_fr_R f2 (by omega)).trans R21, hpi, by omega, fun q => absurd z0 q, fun _ => ⟨by omega, fun h10 e10 T10 => ?_⟩⟩, fun q => absurd q (by omega)⟩
          have f10 : vx_fr (fun a k => (a = 7 ∧ (k = 11 ∨ k = 12)) ∨ (op = true ∧ a = vx_r pi 1)) g2 h10 := vx_fr_sJ vx_fr_refl e10 (Or.inr ⟨hop, rfl⟩)
          refine ⟨f10, ⟨hpi, ?_, by show Pd.1 + 1 ≤ 16; omega, fun p hp2 => ?_⟩, ⟨by rw [e10, vx_J_ne (by omega)]; exact F2.1, by rw [e10, vx_J_ne (by omega)]; exact F2.2⟩⟩
          · rw [e10, vx_J_ne (by omega), vx_fr_J f2 (by omega), vx_fr_J g21 (by omega), c8]
            rfl
          · have hp2 : p < Pd.1 + 1 := hp2
            show vx_K h10 (vx_r pi 0) p = (if p = Pd.1 then vy_v ts i else Pd.2.1 p) ∧ vx_J h10 (vx_r pi 1) p = (if p = Pd.1 then (m : Int) else Pd.2.2 p) ∧ 1 ≤ (if p = Pd.1 then (m : Int) else Pd.2.2 p) ∧ (if p = Pd.1 then (m : Int) else Pd.2.2 p) ≤ 4
            rw [e10, vx_K_sJ, vx_J_sJ (by omega), vx_fr_K f2 (by omega), vx_fr_J f2 (by omega), vx_fr_K g21 (by omega), vx_fr_J g21 (by omega), e8, vx_K_sJ, vx_J_ne (by omega), e5, vx_K_sJ, vx_J_sJ (by omega), e3, vx_K_sK hvr, vx_J_sK]
            by_cases q2 : p = Pd.1
            · rw [if_pos ⟨rfl, q2⟩, if_pos q2, if_pos ⟨rfl, q2⟩, if_pos q2]
              exact ⟨rfl, rfl, by omega, by omega⟩
            · have := P7.2.2.2 p (by omega)
              rw [if_neg (by omega), if_neg q2, if_neg (by omega), if_neg (by omega), if_neg q2]
              exact this
        · refine ⟨fun q => absurd rfl q, fun _ => vx_CI_mono (vc_166 T21 (by omega)) ?_⟩
          rintro r27 h27 _ ⟨rfl, f27, b27⟩ _
          have f21 : vx_fr (fun a k => a = 7 ∧ k = 10) h7 h21 := vx_fr_sJ vx_fr_refl e21 ⟨rfl, rfl⟩
          have e : vy_am ts op hd any i V O Pd F = .inl (vy_p ts i) := by
            unfold vy_am
            rw [if_neg (fun t => t hk2), if_pos ⟨by omega, hop, by omega⟩]
          rw [e]
          exact ⟨Or.inl rfl, vx_fr_trans (vx_fr_trans f7 (vx_fr_mono f21 (by intro a k q; omega))) (vx_fr_mono f27 (by intro a k q; omega)), rfl, b27⟩
  · refine vx_CI_mono (vc_166 hT (by omega)) ?_
    rintro r29 h29 _ ⟨rfl, f29, b29⟩ _
    have e : vy_am ts op hd any i V O Pd F = .inl (vy_p ts i) := by
      unfold vy_am
      rw [if_pos hk2]
    rw [e]
    exact ⟨Or.inl rfl, vx_fr_mono f29 (by intro a k q; omega), rfl, b29⟩
end
