/-! The search, step by step: the class -/
section
variable {d o pi a : Nat} {R : vu_R} {σ : Nat → Nat} {b : Nat → Int} {st : Nat → Nat} {sN tn fr sd : Int} {PS : Nat → vm_S} {NS : vm_S} {X Y : List (Nat → Int) → ve_H → Prop} {Z : List (Nat → Int) → (Nat → Int) → Prop} {h h1 g g1 : ve_H} {l : List (Nat → Int)} {e : Nat} {x : Int}
theorem vm_109 (H : vm_HY o pi a R σ b st sN tn fr sd PS NS X Y Z) (hx : x = e) (he : e ≤ R.2.2.2.2.1) (hT : vx_T 1 625 h) (C : vm_cx h o pi a R σ b st sN tn fr sd) (s : vm_ST X Y l h) (ok : vm_ok (b e) (vm_hv h)) (core : ∀ g, vx_T 1 625 g → vm_cx g o pi a R σ b st sN tn fr sd → X l g → vx_J g 21 12 = 0 → vm_ok (b e) (vm_hv g) → vx_W (d + 3 + 1) 109 37 [some (.ref 21), some (.int (vx_i x)), none, none, none, none, none] [] g (vx_RV (vm_po R σ b PS NS X Y Z e l g))) : vx_CV (d + 3 + 1) 109 [.ref 21, .int (vx_i x)] h (vm_po R σ b PS NS X Y Z e l h) := by
  have l6 := C.1.1.2.2.2.1
  have e6 : vx_J h o 6 = R.2.2.2.2.1 := C.1.1.2.2.1
  refine vg_109 hT ⟨fun q => ?_, fun q => ⟨o, C.1.1.1, C.1.1.2.1, by omega, fun q2 => absurd q2 (by omega), fun _ => ?_⟩⟩
  · rcases s with ⟨s1, _⟩ | ⟨s1, s2⟩
    · exact absurd s1 q
    · exact ⟨vx_fr_refl, vm_ag_refl, vm_kp_refl, Or.inr ⟨s1, [], fun u hu => absurd hu List.not_mem_nil, by rw [List.append_nil]; exact s2⟩⟩
  · have xl : X l h := by
      rcases s with ⟨_, s2⟩ | ⟨s1, _⟩
      · exact s2
      · exact absurd q s1
    rw [C.2.2.1]
    refine ⟨fun _ => core h hT C xl q ok, fun q3 => vx_CI_mono (H.2.2.2.2.2.1 (d + 1) e l h hT C xl q (by omega) he) ?_⟩
    rintro r6 h6 _ ⟨F, K, x6, j6, z6⟩ hT6
    have hv : vm_hv h6 = vm_hv h := vm_hv_fr F (fun k q => q.2 rfl)
    have C6 := vm_cx_fr C F (fun a k q => q.1)
    refine ⟨fun _ => ?_, fun q6 => vm_po_no (vx_fr_mono F (fun a k q => q.1)) (by rw [hv]; exact vm_ag_refl) K q j6 x6 (fun u u1 _ => z6 q6 u u1)⟩
    refine vx_mono (core h6 hT6 C6 x6 j6 (by rw [hv]; exact ok)) ?_
    rintro ot h7 ⟨eo, P⟩
    exact ⟨eo, vm_po_t F K q P⟩
/-- all literals hold -/
theorem vm_core0 (H : vm_HY o pi a R σ b st sN tn fr sd PS NS X Y Z) (hx : x = e) (he : e = R.2.2.2.2.1) (al : ∀ v, v < R.2.2.2.1 → vb (b e) v = true) (hT : vx_T 1 625 g) (C : vm_cx g o pi a R σ b st sN tn fr sd) (xl : X l g) (j0 : vx_J g 21 12 = 0) (ok : vm_ok (b e) (vm_hv g)) : vx_W (d + 3 + 1) 109 37 [some (.ref 21), some (.int (vx_i x)), none, none, none, none, none] [] g (vx_RV (vm_po R σ b PS NS X Y Z e l g)) := by
  have l6 := C.1.1.2.2.2.1
  have e6 : vx_J g o 6 = R.2.2.2.2.1 := C.1.1.2.2.1
  refine vg_109_37 hT ⟨o, C.1.1.1, C.1.1.2.1, by omega, fun q => absurd (show x = vx_J g o 6 by omega) q, fun _ => vx_CV_mono (H.2.2.2.2.1 d l g hT C xl j0 (fun v hv => ok v (al v hv))) ?_⟩
  rintro h1 ⟨F, K, q⟩ _
  have hv : vm_hv h1 = vm_hv g := vm_hv_fr F (fun k q => q.2 rfl)
  have so0 : ∀ u, vm_so R.2.2.2.2 σ PS NS e u := fun u e' q1 q2 => by omega
  have snd : ∀ u, u ∈ [vm_hv g] → vm_ag (b e) (vm_hv g) u ∧ vm_so R.2.2.2.2 σ PS NS e u ∧ ∀ v, v < R.2.2.2.1 → vz_va (u v) := fun u hu => by
    rw [List.mem_singleton.mp hu]
    exact ⟨vm_ag_refl, so0 _, fun v hv => ok v (al v hv)⟩
  refine ⟨vx_fr_mono F (fun a k q => q.1), by rw [hv]; exact vm_ag_refl, K, ?_⟩
  rcases q with ⟨q1, q2⟩ | ⟨q1, q2⟩
  · exact Or.inl ⟨j0, q1, [vm_hv g], snd, fun u u1 _ => H.2.2.2.2.2.2 l (vm_hv g) u (fun i hi => u1 i (al i hi)), fun _ => List.pairwise_singleton _ _, q2⟩
  · exact Or.inr ⟨q1, [vm_hv g], snd, q2⟩
/-- what the loop over all rows gives -/
theorem vm_lp_po {cnt : Nat} {rr : Nat → Nat → Int} {cm : Nat → Int} {ch : List Nat} (he : e < R.2.2.2.2.1) (k14 : R.2.2.2.2.2.1 (σ e) = 14) (hch : ∀ i, i ∈ ch ↔ (i < cnt ∧ rr i 0 = R.2.2.2.2.2.2.1 (σ e)))
    (d1 : ∀ i, i < cnt → rr i 0 = R.2.2.2.2.2.2.1 (σ e) → vm_it fr tn ((st (R.2.2.2.2.2.2.1 (σ e)).toNat : Int) = sN) e (cm i) → PS e (rr i)) (d2 : ∀ f, PS e f → f 0 = R.2.2.2.2.2.2.1 (σ e) → ∃ i, i < cnt ∧ vr_eq 5 (rr i) f ∧ vm_it fr tn ((st (R.2.2.2.2.2.2.1 (σ e)).toNat : Int) = sN) e (cm i))
    (P : vm_lp R σ b PS NS X Y Z e (fun i => vm_it fr tn ((st (R.2.2.2.2.2.2.1 (σ e)).toNat : Int) = sN) e (cm i)) rr (vm_hv g) ch l g h1) : vm_po R σ b PS NS X Y Z e l g h1 := by
  obtain ⟨p1, p2, p3, p4⟩ := P
  refine ⟨p1, p2, p3, ?_⟩
  have up : ∀ u, ((vm_ag (b e) (vm_hv g) u ∧ vm_so R.2.2.2.2 σ PS NS (e + 1) u ∧ ∀ v, v < R.2.2.2.1 → vz_va (u v)) ∧ ∃ i, i ∈ ch ∧ vm_it fr tn ((st (R.2.2.2.2.2.2.1 (σ e)).toNat : Int) = sN) e (cm i) ∧ vm_at u (R.2.2.2.2.2.2.2.2 (σ e)) (rr i)) → vm_ag (b e) (vm_hv g) u ∧ vm_so R.2.2.2.2 σ PS NS e u ∧ ∀ v, v < R.2.2.2.1 → vz_va (u v) := by
    rintro u ⟨⟨t1, t2, t3⟩, i, i1, i2, i3⟩
    refine ⟨t1, fun e' q1 q2 => ?_, t3⟩
    by_cases q : e' = e
    · rw [q, k14]
      have c := (hch i).mp i1
      exact ⟨fun _ => ⟨rr i, d1 i c.1 c.2 i2, c.2, i3⟩, fun t => absurd t (by decide), fun t => absurd t (by decide), fun t => absurd t (by decide)⟩
    · exact t2 e' (by omega) q2
  rcases p4 with ⟨q0, q1, l', q2, q3, q4, q5⟩ | ⟨q1, l', q2, q3⟩
  · refine Or.inl ⟨q0, q1, l', fun u hu => up u (q2 u hu), fun u u1 u2 => ?_, q4, q5⟩
    obtain ⟨f, f1, f2, f3⟩ := (u2 e (Nat.le_refl _) he).1 k14
    obtain ⟨i, i1, i2, i3⟩ := d2 f f1 f2
    exact q3 i ((hch i).mpr ⟨i1, (i2 0 (by omega)).trans f2⟩) i3 u u1 (fun e' t1 t2 => u2 e' (by omega) t2) (vm_at_eq (fun k hk => (i2 k hk).symm) f3)
  · exact Or.inr ⟨q1, l', fun u hu => up u (q2 u hu), q3⟩
/-- a literal that is asked or reckoned -/
theorem vm_coreN (H : vm_HY o pi a R σ b st sN tn fr sd PS NS X Y Z) (hx : x = e) (he : e < R.2.2.2.2.1) (C : vm_cx g o pi a R σ b st sN tn fr sd) (xl : X l g) (j0 : vx_J g 21 12 = 0)
    (IH : ∀ g l, vx_T 1 625 g → vm_cx g o pi a R σ b st sN tn fr sd → vm_ST X Y l g → vm_ok (b (e + 1)) (vm_hv g) → vx_CV (d + 3) 109 [.ref 21, .int (vx_i (x + 1))] g (vm_po R σ b PS NS X Y Z (e + 1) l g)) {r : Int} (hT1 : vx_T 1 625 g1) (F : vx_fr vm_W3 g g1) (s : vm_sp (b e) (b (e + 1)) (fun u => vm_li (PS e) NS (R.2.2.2.2.2.1 (σ e)) (R.2.2.2.2.2.2.1 (σ e)) (R.2.2.2.2.2.2.2.2 (σ e)) u) (vm_hv g) r (vm_hv g1)) : (r = 0 → vm_po R σ b PS NS X Y Z e l g g1) ∧ (r ≠ 0 → vx_CV (d + 3) 109 [.ref 21, .int (vx_i (x + 1))] g1 (fun h2 => vx_T 1 625 h2 → vm_po R σ b PS NS X Y Z e l g h2)) := by
  have j1 : vx_J g1 21 12 = vx_J g 21 12 := vx_fr_J F (by omega)
  refine ⟨fun q => ?_, fun q => ?_⟩
  · refine vm_po_no (vx_fr_mono F (fun a k q => vm_W3_W q)) s.1 (vm_kp_fr F (fun a k q => by omega)) j0 (j1.trans j0) (H.1 l g g1 xl F) (fun u u1 u2 => ?_)
    rcases s.2 with ⟨t, _⟩ | ⟨_, t⟩
    · omega
    · exact absurd (u2 e (Nat.le_refl _) he) (t u u1)
  · have e1 : r = 1 := by
      rcases vm_sp_01 s with t | t
      · exact absurd t q
      · exact t
    rw [e1] at s
    have ok1 : vm_ok (b (e + 1)) (vm_hv g1) := by
      rcases s.2 with ⟨_, _, t, _⟩ | ⟨t, _⟩
      · exact t
      · exact absurd t (by decide)
    refine vx_CV_mono (IH g1 l hT1 (vm_cx_fr C F (fun a k q => vm_W3_W q)) (Or.inl ⟨j1.trans j0, H.1 l g g1 xl F⟩) ok1) ?_
    rintro h2 P _
    exact vm_po_s C he F j0 s P
theorem vm_core (H : vm_HY o pi a R σ b st sN tn fr sd PS NS X Y Z) (S : vm_sl R.2.2.1.1 R.2.2.2.1 R.2.2.2.2) (htn : ∀ p, (st p : Int) = sN → 0 ≤ tn ∧ tn < 1000) (hx : x = e) (he : e < R.2.2.2.2.1) (hT : vx_T 1 625 g) (C : vm_cx g o pi a R σ b st sN tn fr sd) (xl : X l g) (j0 : vx_J g 21 12 = 0) (ok : vm_ok (b e) (vm_hv g))
    (IH : ∀ g l, vx_T 1 625 g → vm_cx g o pi a R σ b st sN tn fr sd → vm_ST X Y l g → vm_ok (b (e + 1)) (vm_hv g) → vx_CV (d + 3) 109 [.ref 21, .int (vx_i (x + 1))] g (vm_po R σ b PS NS X Y Z (e + 1) l g)) : vx_W (d + 3 + 1) 109 37 [some (.ref 21), some (.int (vx_i x)), none, none, none, none, none] [] g (vx_RV (vm_po R σ b PS NS X Y Z e l g)) := by
  have l6 := C.1.1.2.2.2.1
  have e6 : vx_J g o 6 = R.2.2.2.2.1 := C.1.1.2.2.1
  have cs := C.2.1.1 e he
  have W := vm_lw_at C S he
  have ck := vm_kd C.1.1 cs.1 (z := ((σ e : Nat) : Int)) rfl
  rw [show ((σ e : Nat) : Int).toNat = σ e by omega] at ck
  have HD := H.2.2.2.1 l g xl
  refine vg_109_37 hT ⟨o, C.1.1.1, C.1.1.2.1, by omega, fun _ => ⟨by omega, by omega, ?_⟩, fun q => absurd q (by omega)⟩
  rw [show x.toNat = e by omega, cs.2.1, show ((σ e : Nat) : Int).toNat = σ e by omega, ck.1, cs.2.2.1, ck.2]
  have s6 := cs.1
  refine ⟨by omega, fun k14 => ⟨by omega, fun kn => ?_, fun kn => ?_⟩, fun k14 => ⟨by omega, fun k15 => vx_CI_mono (vc_120 (d := d) hT C.1.1 rfl W k14 k15 ok) ?_, fun k15 => ?_⟩⟩
  · obtain ⟨cnt, rr, cm, M, hv, db⟩ := HD.resolve_left (fun t => (t e he).1 k14)
    have dbe := db e he
    have cnt1 : cnt ≤ 201 := M.1.2.2.1
    obtain ⟨p, hp, p16⟩ := (S.2 _ cs.1).2.2 (Or.inl k14)
    have Mp := M.2.2 p p16
    rw [hp, show ((p : Nat) : Int).toNat = p by omega]
    refine ⟨by omega, by omega, by omega, ?_⟩
    have dk := dbe.1 k14
    refine vx_mono (vm_loop (d := d) (cnt := cnt) (p := p) (rr := rr) (cm := cm) (h0 := g) (v := vm_hv g) (it := fun i => vm_it fr tn ((st (R.2.2.2.2.2.2.1 (σ e)).toNat : Int) = sN) e (cm i)) H S htn he k14 hp p16 M hv hx rfl rfl ok (fun i => by rw [hp, show ((p : Nat) : Int).toNat = p by omega]) IH (vm_cl rr p cnt) g l _ _ (fun i hi => vm_cl_mem.mp hi) (vm_cl_pw cnt) Mp.1 Mp.2 (Nat.le_trans (vm_cl_len cnt) cnt1) hT C vm_kp_refl (Or.inl ⟨j0, xl⟩) vm_ag_refl) ?_
    rintro ot h1 ⟨eo, P⟩
    exact ⟨eo, vm_lp_po (cnt := cnt) he k14 (fun i => by rw [vm_cl_mem, hp]) dk.1 dk.2 P⟩
  · obtain ⟨cnt, rr, cm, M, hv, db⟩ := HD.resolve_left (fun t => (t e he).1 k14)
    have dbe := db e he
    have cnt1 : cnt ≤ 201 := M.1.2.2.1
    obtain ⟨p, hp, p16⟩ := (S.2 _ cs.1).2.2 (Or.inl k14)
    have kno : vz_kn R.2.2.2.2 (σ e) (b e) := by
      rcases cs.2.2.2.2 with ⟨_, t⟩ | ⟨t, _⟩
      · exact t
      · exact absurd t kn
    have vars : ∀ k, k < 4 → ∀ i, vz_v (R.2.2.2.2.2.2.2.2 (σ e) k) i → vb (b e) i = true := fun k hk i hi => kno.2 i ⟨k, hk, hi⟩
    have bb : ∀ i, vb (b (e + 1)) i = true → vb (b e) i = true := fun i hi => by
      rcases (vm_b1 C he i).mp hi with q | q
      · exact q
      · exact kno.2 i q
    have dk := dbe.1 k14
    have asks : ∀ {r : Int} {g' : ve_H}, vm_hv g' = vm_hv g → ((r = 1 ∧ vm_ex (PS e) (R.2.2.2.2.2.2.1 (σ e)) (R.2.2.2.2.2.2.2.2 (σ e)) (vm_hv g)) ∨ (r = 0 ∧ ¬ vm_ex (PS e) (R.2.2.2.2.2.2.1 (σ e)) (R.2.2.2.2.2.2.2.2 (σ e)) (vm_hv g))) → vm_sp (b e) (b (e + 1)) (fun u => vm_li (PS e) NS (R.2.2.2.2.2.1 (σ e)) (R.2.2.2.2.2.2.1 (σ e)) (R.2.2.2.2.2.2.2.2 (σ e)) u) (vm_hv g) r (vm_hv g') := by
      intro r g' eg q
      rw [eg]
      refine vm_sp_ask ok bb (fun u w a t => vm_li_ag a vars t) ?_
      rw [k14]
      rcases q with ⟨q1, q2⟩ | ⟨q1, q2⟩
      · exact Or.inl ⟨q1, fun _ => q2, fun t => absurd t (by decide), fun t => absurd t (by decide), fun t => absurd t (by decide)⟩
      · exact Or.inr ⟨q1, fun t => q2 (t.1 rfl)⟩
    refine vx_CI_mono (vc_122 (d := d + 1) hT C.1.1 cs.1 rfl M.1 W.2.2.1) ?_
    rintro r13 h13 _ ⟨F13, c13⟩ hT13
    have F13' : vx_fr vm_W3 g h13 := vx_fr_mono F13 (fun a k q => Or.inr q)
    have hv13 : vm_hv h13 = vm_hv g := vm_hv_fr F13 (fun k => by omega)
    have C13 := vm_cx_fr C F13' (fun a k q => vm_W3_W q)
    have M13 : vm_M h13 cnt rr cm := vm_M_fr M F13 (fun a k q => by omega)
    refine ⟨fun q13 => ?_, fun q13 => ?_⟩
    · refine (vm_coreN (r := 0) H hx he C xl j0 IH hT13 F13' (asks hv13 (Or.inr ⟨rfl, ?_⟩))).1 rfl
      rintro ⟨f, f1, f2, f3⟩
      obtain ⟨i, i1, i2, _⟩ := dk.2 f f1 f2
      rcases c13 with ⟨j, _, t, _⟩ | ⟨_, t⟩
      · omega
      · exact t i i1 (fun k hk => (i2 k hk).trans ((vm_at_row kno.1).mpr ⟨f2, f3⟩ k hk))
    · obtain ⟨i, i1, i2, i3⟩ : ∃ i : Nat, i < cnt ∧ r13 = i ∧ vr_eq 5 (rr i) (vu_row (R.2.2.2.2.2.2.1 (σ e)) (fun k => vm_v (vm_hv g) (R.2.2.2.2.2.2.2.2 (σ e) k))) := by
        rcases c13 with t | ⟨t, _⟩
        · exact t
        · exact absurd t q13
      have i4 := (vm_at_row kno.1).mp i3
      refine vx_CI_mono (vc_118 (d := d + 3) (c := cm i) (p := p) (σ := σ) hT13 C13.2.2.2.1 C13.2.2.2.2.1 C13.1.1 i2 (by omega) hx (by omega) cs.1 (C13.2.1.1 e he).2.1 hp p16 C13.2.2.2.2.2.1 C13.2.2.2.2.2.2.1 C13.2.2.2.2.2.2.2.1 C13.2.2.2.2.2.2.2.2.1 (htn p) (M13.2.1 i i1)) ?_
      rintro r15 h15 _ ⟨rfl, c15⟩ hT15
      have ee : vm_it fr tn ((st p : Int) = sN) e (cm i) ↔ vm_ex (PS e) (R.2.2.2.2.2.2.1 (σ e)) (R.2.2.2.2.2.2.2.2 (σ e)) (vm_hv g) := by
        have dd := dk
        rw [hp, show ((p : Nat) : Int).toNat = p by omega] at dd
        constructor
        · intro t
          refine ⟨rr i, dd.1 i i1 ?_ t, i4.1, i4.2⟩
          rw [← hp]; exact i4.1
        · rintro ⟨f, f1, f2, f3⟩
          obtain ⟨j, j1, j2, j3⟩ := dd.2 f f1 (by rw [← hp]; exact f2)
          have : i = j := M.1.2.2.2.2.2 i j i1 j1 (fun k hk => (i3 k hk).trans (((vm_at_row kno.1).mpr ⟨f2, f3⟩ k hk).symm.trans (j2 k hk).symm))
          rw [this]; exact j3
      have s15 := asks (r := r15) hv13 (by
        rcases c15 with ⟨t1, t2⟩ | ⟨t1, t2⟩
        · exact Or.inl ⟨t1, ee.mp t2⟩
        · exact Or.inr ⟨t1, fun t => t2 (ee.mpr t)⟩)
      exact vm_coreN H hx he C xl j0 IH hT15 F13' s15
  · rintro r20 h20 _ ⟨F20, s20⟩ hT20
    exact vm_coreN H hx he C xl j0 IH hT20 (vx_fr_mono F20 (fun a k q => Or.inl q)) (s20 (PS e) NS)
  · obtain ⟨cnt, rr, cm, M, hv, db⟩ := HD.resolve_left (fun t => (t e he).2 k15)
    have dbe := db e he
    have cnt1 : cnt ≤ 201 := M.1.2.2.1
    obtain ⟨p, hp, p16⟩ := (S.2 _ cs.1).2.2 (Or.inr k15)
    have vars := (W.2.2.2.2.2.1 k14).2.2 (by rw [k15]; decide) (by rw [k15]; decide)
    have bb : ∀ i, vb (b (e + 1)) i = true → vb (b e) i = true := fun i hi => by
      rcases (vm_b1 C he i).mp hi with q | ⟨k, hk, q⟩
      · exact q
      · exact vars k hk i q
    have Wb : vm_lw R.2.2.1.1 R.2.2.2.1 R.2.2.2.2 (σ e) (b e) (b e) := ⟨W.1, W.2.1, W.2.2.1, W.2.2.2.1, W.2.2.2.2.1, W.2.2.2.2.2.1, fun i => ⟨fun q => Or.inl q, fun q => by
      rcases q with q | ⟨k, hk, q⟩
      · exact q
      · exact vars k hk i q⟩⟩
    have dk := dbe.2 k15
    refine vx_CI_mono (vc_121 (d := d) (e := e) (p := p) hT C.1.1 rfl Wb ok M hv hx (by omega) cs.2.2.1 hp p16 cs.2.2.2.2) ?_
    rintro r23 h23 _ ⟨F23, a23, c23⟩ hT23
    have s23 : ∀ r' : Int, ((r' = 1 ∧ r23 = 0) ∨ (r' = 0 ∧ r23 = 1)) → vm_sp (b e) (b (e + 1)) (fun u => vm_li (PS e) NS (R.2.2.2.2.2.1 (σ e)) (R.2.2.2.2.2.2.1 (σ e)) (R.2.2.2.2.2.2.2.2 (σ e)) u) (vm_hv g) r' (vm_hv h23) := by
      intro r' hr'
      refine ⟨a23, ?_⟩
      rcases c23 with ⟨t1, i, i1, i2, i3⟩ | ⟨t1, t2⟩
      · refine Or.inr ⟨by omega, fun u hu t => t.2.1 k15 ⟨rr i, dk.1 i i1 i2, i2, vm_at_ag hu vars i3⟩⟩
      · have li : vm_li (PS e) NS (R.2.2.2.2.2.1 (σ e)) (R.2.2.2.2.2.2.1 (σ e)) (R.2.2.2.2.2.2.2.2 (σ e)) (vm_hv g) := by
          rw [k15]
          refine ⟨fun t => absurd t (by decide), fun _ => ?_, fun t => absurd t (by decide), fun t => absurd t (by decide)⟩
          rintro ⟨f, f1, f2, f3⟩
          obtain ⟨i, i1, i2⟩ := dk.2 f f1 f2
          exact t2 i i1 ((i2 0 (by omega)).trans f2) (vm_at_eq (fun k hk => (i2 k hk).symm) f3)
        exact Or.inl ⟨by omega, vm_li_ag a23 vars li, fun i hi => vm_ok_ag ok a23 i (bb i hi), fun u hu _ => vm_ag_sub (vm_ag_trans (vm_ag_symm a23) hu) bb⟩
    refine ⟨fun q => (vm_coreN H hx he C xl j0 IH hT23 F23 (s23 0 (by omega))).1 rfl, fun q => (vm_coreN H hx he C xl j0 IH hT23 F23 (s23 1 (by omega))).2 (by decide)⟩
/-- the search from a step on -/
theorem vm_walk (H : vm_HY o pi a R σ b st sN tn fr sd PS NS X Y Z) (S : vm_sl R.2.2.1.1 R.2.2.2.1 R.2.2.2.2) (htn : ∀ p, (st p : Int) = sN → 0 ≤ tn ∧ tn < 1000) (al : ∀ v, v < R.2.2.2.1 → vb (b R.2.2.2.2.1) v = true) : ∀ (m e : Nat) (h : ve_H) (l : List (Nat → Int)) (x : Int), e + m = R.2.2.2.2.1 → x = e → vx_T 1 625 h → vm_cx h o pi a R σ b st sN tn fr sd → vm_ST X Y l h → vm_ok (b e) (vm_hv h) → vx_CV (d + m + 3 + 1) 109 [.ref 21, .int (vx_i x)] h (vm_po R σ b PS NS X Y Z e l h)
  | 0, e, h, l, x, hm, hx, hT, C, s, ok => vm_109 (d := d + 0) H hx (by omega) hT C s ok (fun g hT C xl j0 ok => vm_core0 H hx (by omega) (by rw [show e = R.2.2.2.2.1 by omega]; exact al) hT C xl j0 ok)
  | m + 1, e, h, l, x, hm, hx, hT, C, s, ok => by
    refine vm_109 (d := d + (m + 1)) H hx (by omega) hT C s ok (fun g hT C xl j0 ok => vm_core (d := d + (m + 1)) H S htn hx (by omega) hT C xl j0 ok (fun g l hT C s ok => ?_))
    exact vm_walk H S htn al m (e + 1) g l (x + 1) (by omega) (by omega) hT C s ok
end
