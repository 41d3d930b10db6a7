/-! Reading literals and bodies: the reference, all together -/
section
variable {d i cl sd l : Nat} {h h1 g : ve_H} {ts : vy_T} {V Pd : vy_V} {O : vy_O} {F : vy_F} {L : vy_L} {op : Bool} {at_ : Nat} {pl : Int}
/-- an atom's terms are laid -/
theorem vc_45_234 {g0 : ve_H} {v1 v2 v3 : Int} {m : Nat} {A : Nat → Int} {P : Int → ve_H → Prop} (hv : v1 = l) (hl : l < 366) (hm : m ≤ 4) (hcl : cl < 61) (R0 : vy_ra g0 A m) (c50 : vx_J g0 625 50 = (m : Nat)) (c42 : vx_J g0 625 42 = cl)
    (X : ∀ g1 h5, vx_T 625 672 g1 → vx_fr (fun a k => (a = 645 ∨ a = 646) ∧ 4 * l ≤ k ∧ k < 4 * l + 4) g0 g1 → (∀ k, k < m → vy_tr (A k) (vx_J g1 645 (4 * l + k)) (vx_K g1 646 (4 * l + k))) → h5 = vx_sJ g1 641 cl ((vx_J g1 641 cl) + 1) → vx_T 625 672 h5 → P 1 h5) :
    ∀ (n v : Nat) (g : ve_H) (y : Int), n = m - v → v ≤ m → y = v → vx_T 625 672 g → vx_fr (fun a k => (a = 645 ∨ a = 646) ∧ 4 * l ≤ k ∧ k < 4 * l + 4) g0 g → (∀ k, k < v → vy_tr (A k) (vx_J g 645 (4 * l + k)) (vx_K g 646 (4 * l + k))) → vx_W (d + 1) 45 234 [some (.ref 625), some (.int (vx_i v1)), some (.int (vx_i v2)), some (.int (vx_i v3)), some (.int (vx_i y)), none] [] g (vx_RI P) := by
  intro n
  induction n with
  | zero =>
    intro v g y hn hvm hy hT hf hA
    have d50 : vx_J g 625 50 = (m : Nat) := (vx_fr_J hf (by simp)).trans c50
    have d42 : vx_J g 625 42 = cl := (vx_fr_J hf (by simp)).trans c42
    have hvm2 : v = m := by omega
    refine vg_45_234 hT ?_
    rw [d50, d42, Int.toNat_natCast]
    exact ⟨by omega, fun _ => ⟨by omega, by omega, fun h5 e5 T5 => X g h5 hT hf (by rw [← hvm2]; exact hA) e5 T5⟩, fun t => absurd t (by omega)⟩
  | succ n ih =>
    intro v g y hn hvm hy hT hf hA
    have d50 : vx_J g 625 50 = (m : Nat) := (vx_fr_J hf (by simp)).trans c50
    have Rv : vy_tr (A v) (vx_J g 658 v) (vx_K g 659 v) := by
      rw [vx_fr_J hf (by simp), vx_fr_K hf (by simp)]; exact R0 v (by omega)
    refine vg_45_234 hT ?_
    rw [d50, show y.toNat = v by omega, show (4 * v1 + y).toNat = 4 * l + v by omega]
    refine ⟨by omega, fun t => absurd t (by omega), fun _ => ⟨by omega, by omega, fun h8 e8 T8 => ⟨by omega, by omega, fun h11 e11 T11 => ?_⟩⟩⟩
    have f11 : vx_fr (fun a k => (a = 645 ∨ a = 646) ∧ k = 4 * l + v) g h11 := vx_fr_sK (vx_fr_sJ vx_fr_refl e8 ⟨Or.inl rfl, rfl⟩) e11 ⟨Or.inr rfl, rfl⟩
    refine ih (v + 1) h11 (y + 1) (by omega) (by omega) (by omega) T11 (vx_fr_trans hf (vx_fr_mono f11 (fun a k q => ⟨q.1, by omega, by omega⟩))) (fun k hk => ?_)
    by_cases qk : k = v
    · rw [qk, e11, vx_J_sK, vx_K_eq (vx_rL_K _ _ _), e8, vx_J_eq (vx_rI_J _ _ _), vx_K_sJ]
      exact Rv
    · rw [vx_fr_J f11 (fun t => qk (by omega)), vx_fr_K f11 (fun t => qk (by omega))]
      exact hA k (by omega)
abbrev vy_Sf (cl l a k : Nat) : Prop := (a = 625 ∧ k = 58) ∨ (a = 641 ∧ k = cl) ∨ ((a = 643 ∨ a = 644 ∨ a = 661) ∧ k = l) ∨ ((a = 645 ∨ a = 646) ∧ 4 * l ≤ k ∧ k < 4 * l + 4)
/-- an atom of a body, and its literal -/
theorem vc_45_at {j : Nat} {any : Bool} {c kr v1 v2 v3 y2 rl : Int} {P : Int → ve_H → Prop} (ok : vy_ok ts) (hT : vx_T 625 672 g) (B : vy_rs h ts cl sd op i V O Pd F L at_) (hL : L.1 < 6) (hv : v1 = ((6 * cl + L.1 : Nat) : Int)) (Bg : vy_rr g ts cl sd op j V O Pd F) (fg : vx_fr (fun a k => (a = 660 ∧ k = 6 * cl + L.1) ∨ (a = 625 ∧ k = 10)) h g) (hpl : vx_J g 660 (6 * cl + L.1) = pl) (hy : vx_rI y2 ∧ (y2 ≠ 0 ↔ any = true)) (hc : (c = 0 ∧ kr = 1 ∧ rl = 15) ∨ (c = 1 ∧ kr = 0 ∧ rl = 14 ∧ at_ < 3))
    (X1 : ∀ p g1, vy_am ts op false any j V O Pd F = .inl p → vx_fr (vy_Sz cl sd) h g1 → vy_rbad p g1 → P 0 g1)
    (X2 : ∀ q g1, vy_am ts op false any j V O Pd F = .inr q → vx_fr (vy_Sz cl sd) h g1 → vy_rs g1 ts cl sd op q.1 q.2.1 O q.2.2.2.2.2.2.1 q.2.2.2.2.2.2.2 (vy_la L rl q.2.2.2.2.2.1 pl q.2.2.2.1) (at_ + c.toNat) → P 1 g1) :
    vx_CI (d + 4) 42 [.ref 625, .int (vx_i 0), .int (vx_i y2)] g (fun r3 h3 => vx_T 625 672 h3 → ((r3 ≠ 0 → (∀ h5, h5 = vx_sJ h3 625 58 ((vx_J h3 625 58) + c) → vx_T 625 672 h5 → (0 ≤ v1 ∧ v1 < 366) ∧ (∀ h7, h7 = vx_sJ h5 643 v1.toNat kr → vx_T 625 672 h7 → (0 ≤ v1 ∧ v1 < 366) ∧ (∀ h9, h9 = vx_sJ h7 644 v1.toNat (vx_J h7 625 57) → vx_T 625 672 h9 → (0 ≤ v1 ∧ v1 < 366) ∧ (∀ h11, h11 = vx_sJ h9 661 v1.toNat (vx_J h9 625 50) → vx_T 625 672 h11 → vx_W (d + 4 + 1) 45 234 [some (.ref 625), some (.int (vx_i v1)), some (.int (vx_i v2)), some (.int (vx_i v3)), some (.int (vx_i 0)), none] [] h11 (vx_RI P)))))) ∧ (r3 = 0 → P 0 h3))) := by
  obtain ⟨Br, Bl, B58, B3, B39⟩ := B
  have hcl := Br.1.2.2.2.2.1
  have hll : 6 * cl + L.1 < 366 := by omega
  have hv3 : 0 ≤ v1 ∧ v1 < 366 := by omega
  have ev : v1.toNat = 6 * cl + L.1 := by omega
  have rc : vx_rI ((at_ : Int) + c) := by omega
  have rk : vx_rI kr := by omega
  have fgz : vx_fr (vy_Sz cl sd) h g := vx_fr_mono fg (by
    rintro a k (⟨q1, q2⟩ | ⟨q1, q2⟩)
    · exact Or.inr (Or.inr (Or.inr (Or.inl ⟨Or.inr (Or.inr (Or.inl q1)), by omega, by omega⟩)))
    · exact Or.inl (Or.inl (Or.inl (by omega))))
  refine vx_CI_mono (vc_42 (d := d) (hd := false) (any := any) hT ok Bg ⟨by decide, fun t => absurd rfl t, fun t => absurd t (by decide)⟩ hy (fun t => absurd t (by decide)) (fun t => absurd t (by decide))) ?_
  rintro r3 h3 _ ⟨f3, p3⟩ T3
  have F3 : vx_fr (vy_Sz cl sd) h h3 := vx_fr_trans fgz (vx_fr_mono f3 (fun a k q => vy_Sz_n q))
  cases e : vy_am ts op false any j V O Pd F with
  | inl p =>
    rw [e] at p3
    obtain ⟨rfl, b⟩ := p3
    exact ⟨fun t => absurd rfl t, fun _ => X1 p h3 e F3 b⟩
  | inr q =>
    rw [e] at p3
    obtain ⟨rfl, C3, A3, c50, c57, -⟩ := p3
    obtain ⟨m1, m2, m3, m4, m5⟩ := vy_am_w e
    rw [vy_am_O e] at C3
    have hO := vy_am_O e
    refine ⟨fun _ h5 e5 T5 => ⟨hv3, fun h7 e7 T7 => ⟨hv3, fun h9 e9 T9 => ⟨hv3, fun h11 e11 T11 => ?_⟩⟩⟩, fun t => absurd t (by decide)⟩
    rw [ev] at e7 e9 e11
    have a58 : vx_J h3 625 58 = at_ := (vx_fr_J f3 (by simp [vy_Sq])).trans ((vx_fr_J fg (by simp)).trans B58)
    rw [a58] at e5
    have f11 : vx_fr (vy_Sf cl (6 * cl + L.1)) h3 h11 := by
      refine vx_fr_sJ (vx_fr_sJ (vx_fr_sJ (vx_fr_sJ vx_fr_refl e5 ?_) e7 ?_) e9 ?_) e11 ?_
      · exact Or.inl ⟨rfl, rfl⟩
      · exact Or.inr (Or.inr (Or.inl ⟨Or.inl rfl, rfl⟩))
      · exact Or.inr (Or.inr (Or.inl ⟨Or.inr (Or.inl rfl), rfl⟩))
      · exact Or.inr (Or.inr (Or.inl ⟨Or.inr (Or.inr rfl), rfl⟩))
    have c58 : vx_J h11 625 58 = (at_ : Int) + c := by
      rw [e11, vx_J_ne (by simp), e9, vx_J_ne (by simp), e7, vx_J_ne (by simp), e5, vx_J_eq rc]
    have c643 : vx_J h11 643 (6 * cl + L.1) = kr := by
      rw [e11, vx_J_ne (by simp), e9, vx_J_ne (by simp), e7, vx_J_eq rk]
    have g57 : vx_J h7 625 57 = vx_J h3 625 57 := by rw [e7, vx_J_ne (by simp), e5, vx_J_ne (by simp)]
    have g50 : vx_J h9 625 50 = vx_J h3 625 50 := by rw [e9, vx_J_ne (by simp), e7, vx_J_ne (by simp), e5, vx_J_ne (by simp)]
    have c644 : vx_J h11 644 (6 * cl + L.1) = (if q.2.2.2.2.2.1 = -1 then 0 else q.2.2.2.2.2.1) := by
      rw [e11, vx_J_ne (by simp), e9, vx_J_eq (vx_rI_J _ _ _), g57, c57]
    have c661 : vx_J h11 661 (6 * cl + L.1) = (q.2.2.2.2.1 : Nat) := by
      rw [e11, vx_J_eq (vx_rI_J _ _ _), g50, c50]
    have d50 : vx_J h11 625 50 = (q.2.2.2.2.1 : Nat) := by rw [vx_fr_J f11 (by simp [vy_Sf]), c50]
    have d42 : vx_J h11 625 42 = cl := by rw [vx_fr_J f11 (by simp [vy_Sf])]; exact C3.1.2.2.2.1
    refine vc_45_234 (d := d + 4) (g0 := h11) (l := 6 * cl + L.1) (m := q.2.2.2.2.1) (A := q.2.2.2.1) hv hll m1.2 hcl (vy_ra_fr A3 f11 (fun k => by simp [vy_Sf])) d50 d42 ?_ _ 0 h11 0 rfl (Nat.zero_le _) rfl T11 vx_fr_refl (fun k hk => absurd hk (by omega))
    intro g1 hx Tg1 fg1 Ag1 ex Tx
    have c41 : vx_J g1 641 cl = L.1 := (vx_fr_J fg1 (by simp)).trans ((show vx_J h11 641 cl = vx_J h3 641 cl by rw [e11, vx_J_ne (by simp), e9, vx_J_ne (by simp), e7, vx_J_ne (by simp), e5, vx_J_ne (by simp)]).trans ((vx_fr_J f3 (by simp [vy_Sq])).trans ((vx_fr_J fg (by simp)).trans Bl.1)))
    rw [c41] at ex
    have fx : vx_fr (fun a k => a = 641 ∧ k = cl) g1 hx := vx_fr_sJ vx_fr_refl ex ⟨rfl, rfl⟩
    have gx : vx_fr (vy_Sf cl (6 * cl + L.1)) h3 hx := vx_fr_trans (vx_fr_trans f11 (vx_fr_mono fg1 (fun a k q => Or.inr (Or.inr (Or.inr q))))) (vx_fr_mono fx (fun a k q => Or.inr (Or.inl q)))
    have gz : vx_fr (vy_Sz cl sd) h3 hx := vx_fr_mono gx (by
      rintro a k (q | q | q | q)
      · exact vy_Sz_58 q
      · exact vy_Sz_641 q
      · exact Or.inr (Or.inr (Or.inr (Or.inl ⟨by omega, by omega, by omega⟩)))
      · exact Or.inr (Or.inr (Or.inr (Or.inr ⟨q.1, by omega, by omega⟩))))
    have p1 : vx_J g1 660 (6 * cl + L.1) = pl := (vx_fr_J fg1 (by simp)).trans ((vx_fr_J f11 (by simp [vy_Sf])).trans ((vx_fr_J f3 (by simp [vy_Sq])).trans hpl))
    have Q : vy_rq g1 (6 * cl + L.1) q.2.2.2.2.2.2.1 q.2.2.2.2.2.2.2 rl q.2.2.2.2.2.1 pl q.2.2.2.1 := by
      refine ⟨p1, ?_, q.2.2.2.2.1, m1.2, Ag1, fun k h1 _ => m2 k h1, fun t => ⟨m1.1, (vx_fr_J fg1 (by simp)).trans c661, (vx_fr_J fg1 (by simp)).trans c644, m5⟩, fun t => ?_, fun t => ?_⟩
      · rw [vx_fr_J fg1 (by simp), c643]
        unfold vy_rk
        rcases hc with ⟨-, u, w⟩ | ⟨-, u, w, -⟩
        · rw [if_neg (by omega), if_pos w]; exact u
        · rw [if_pos w]; exact u
      · exfalso; rcases hc with ⟨-, u, w⟩ | ⟨-, u, w, -⟩ <;> omega
      · exfalso; rcases hc with ⟨-, u, w⟩ | ⟨-, u, w, -⟩ <;> omega
    have fu : vx_fr (vy_Su cl sd (6 * cl + L.1)) h g1 := by
      refine vx_fr_trans (vx_fr_trans (vx_fr_trans (vx_fr_mono fg ?_) (vx_fr_mono f3 (fun a k q => Or.inl q))) ?_) (vx_fr_mono fg1 (fun a k q => Or.inr (Or.inl (Or.inr (Or.inr q)))))
      · rintro a k (⟨q1, q2⟩ | ⟨q1, q2⟩)
        · exact Or.inr (Or.inl (Or.inr (Or.inl ⟨Or.inr (Or.inr (Or.inl q1)), q2⟩)))
        · exact Or.inl (Or.inl (Or.inl (by omega)))
      · refine vx_fr_sJ (vx_fr_sJ (vx_fr_sJ (vx_fr_sJ vx_fr_refl e5 ?_) e7 ?_) e9 ?_) e11 ?_
        · exact Or.inr (Or.inr ⟨rfl, rfl⟩)
        · exact Or.inr (Or.inl (Or.inr (Or.inl ⟨Or.inl rfl, rfl⟩)))
        · exact Or.inr (Or.inl (Or.inr (Or.inl ⟨Or.inr (Or.inl rfl), rfl⟩)))
        · exact Or.inr (Or.inl (Or.inr (Or.inl ⟨Or.inr (Or.inr (Or.inr rfl)), rfl⟩)))
    refine X2 q hx e (vx_fr_trans F3 gz) ⟨vy_rr_fr C3 gx (fun k => by simp [vy_Sf]) (fun k => by simp [vy_Sf]) (by simp [vy_Sf]), vy_rl_add Bl hL fu m3 m4 Q ex, ?_, ?_, ?_⟩
    · rw [vx_fr_J fx (by simp), vx_fr_J fg1 (by simp), c58]
      rcases hc with ⟨u, -⟩ | ⟨u, -⟩ <;> omega
    · rcases hc with ⟨u, -⟩ | ⟨u, -, -, w⟩ <;> omega
    · rw [vx_fr_J gx (by simp [vy_Sf]), vx_fr_J f3 (by simp [vy_Sq]), vx_fr_J fg (by simp)]
      exact B39
theorem vc_45 (ok : vy_ok ts) (hT : vx_T 625 672 h) (B : vy_rs h ts cl sd op i V O Pd F L at_) : vx_CI (d + 5) 45 [.ref 625] h (vy_lR ts cl sd op O (if L.1 < 6 then vy_li ts op i V O Pd F L at_ else .inl (vy_p ts i)) h) := by
  have hcl := B.1.1.2.2.2.2.1
  have n1 : vx_J h 625 3 ≠ 1 := by rw [B.1.2.2.2.2.2.1.1]; exact B.1.2.2.2.2.2.2
  have hl := ok.2.1
  have hi := B.1.1.2.2.1
  have L6 := B.2.1.2.1
  have c42 : vx_J h 625 42 = cl := B.1.1.2.2.2.1
  refine vg_45 hT ?_
  rw [c42, Int.toNat_natCast, B.2.1.1]
  refine ⟨by omega, fun q6 => ⟨by omega, ?_⟩, fun q6 => ?_⟩
  rotate_left
  · rw [if_neg (by omega)]
    refine vx_CI_mono (vc_33 (d := d + 3) hT ok B.1.1 n1) ?_
    rintro r12 h12 _ ⟨rfl, f12, b12⟩ _
    exact ⟨Or.inl rfl, vx_fr_mono f12 (fun a k q => vy_Sz_n (vy_Sn_q (vy_Sq_b q))), rfl, b12⟩
  have hL : L.1 < 6 := by omega
  rw [if_pos hL]
  have hv : 6 * (cl : Int) + (L.1 : Int) = ((6 * cl + L.1 : Nat) : Int) := by omega
  rw [hv]
  have hll : 6 * cl + L.1 < 366 := by omega
  -- from the literal's place on
  have GO : ∀ v2 v3 : Int, vx_rI v2 → vx_rI v3 → (v2 ≠ 0 ↔ vy_k ts i = 33) → (v3 ≠ 0 ↔ (vy_k ts i = 33 ∨ (vy_k ts i = 2 ∧ vy_k ts (i + 1) = 40))) → vx_W (d + 4 + 1) 45 98 [some (.ref 625), some (.int (vx_i ((6 * cl + L.1 : Nat) : Int))), some (.int (vx_i v2)), some (.int (vx_i v3)), none, none] [] h (vx_RI (vy_lR ts cl sd op O (vy_li ts op i V O Pd F L at_) h)) := by
    intro v2 v3 hr2 hr3 h2 h3
    refine vg_45_98 hT ?_
    rw [B.1.1.2.1, Int.toNat_natCast, Int.toNat_natCast, (vy_kr B.1.1.1 hi).1]
    refine ⟨by omega, by omega, fun h3' e3 T3 => ⟨hr3, fun q3 => ?_, fun q3 => ⟨hr2, fun q2 => ⟨fun qa => ?_, fun qa => ?_⟩, fun q2 h19 e19 T19 => ?_⟩⟩⟩
    · -- a relation
      have f3 : vx_fr (fun a k => a = 660 ∧ k = 6 * cl + L.1) h h3' := vx_fr_sJ vx_fr_refl e3 ⟨rfl, rfl⟩
      have B3 : vy_rb h3' ts cl i V := vy_rb_fr B.1.1 f3 (fun k => by simp) (by simp) (by simp)
      have pl3 : vx_J h3' 660 (6 * cl + L.1) = vy_p ts i := by rw [e3, vx_J_eq (by have := ok.2.2.2.1 i hi; omega)]
      have n33 : vy_k ts i ≠ 33 := fun t => (h3.mpr (Or.inl t)) q3
      have n40 : ¬ (vy_k ts i = 2 ∧ vy_k ts (i + 1) = 40) := fun t => (h3.mpr (Or.inr t)) q3
      have e0 : vy_li ts op i V O Pd F L at_ = match vy_re ts i V with
        | .inl p => .inl p
        | .inr q => .inr (q.1, q.2.1, Pd, F, vy_la L q.2.2.1 q.2.2.2.1 (vy_p ts i) q.2.2.2.2, at_) := by
        unfold vy_li
        rw [if_neg n33, if_neg n40]
        rfl
      have S3 : vy_u4 ts cl (6 * cl + L.1) (vy_p ts i) h h3' i V (fun _ => 0) 0 := ⟨vx_fr_mono f3 (fun a k q => Or.inr (Or.inl ⟨Or.inr (Or.inr (Or.inl q.1)), q.2⟩)), ⟨vx_fr_J f3 (by simp), vx_fr_J f3 (by simp)⟩, B3, fun k hk => absurd hk (by omega), pl3⟩
      have RL : ∀ v4 : Int, vx_rI v4 → (v4 ≠ 0 ↔ vy_k ts i = 3) → vx_CI (d + 4) 39 [.ref 625] h3' (fun r8 h8 => vx_T 625 672 h8 → ((r8 ≠ 0 → vx_CV (d + 4) 44 [.ref 625, .int (vx_i ((6 * cl + L.1 : Nat) : Int)), .int (vx_i 0)] h8 (fun h10 => vx_T 625 672 h10 → vx_W (d + 4 + 1) 45 335 [some (.ref 625), some (.int (vx_i ((6 * cl + L.1 : Nat) : Int))), some (.int (vx_i v2)), some (.int (vx_i v3)), some (.int (vx_i v4)), none] [] h10 (vx_RI (vy_lR ts cl sd op O (vy_li ts op i V O Pd F L at_) h)))) ∧ (r8 = 0 → vy_lR ts cl sd op O (vy_li ts op i V O Pd F L at_) h 0 h8))) := by
        intro v4 hr4 h4
        refine vc_39l (d := d + 1) (k0 := 0) (P := vy_lR ts cl sd op O (vy_li ts op i V O Pd F L at_) h) ok T3 n1 S3 rfl rfl hll (by decide) (fun p g1 e f b => ?_) (fun q g1 Tg e f S => ?_)
        · have e2 : vy_re ts i V = .inl p := by unfold vy_re; rw [e]
          rw [e0, e2]
          exact ⟨vx_fr_mono f (fun a k q => vy_Sz_w hL rfl q), rfl, b⟩
        · refine vc_45_335 (d := d + 1) ok Tg B hL rfl S ⟨hr4, h4⟩ e (fun p g1 e f b => ?_) (fun u g1 e f c => ?_)
          · rw [e0, e]; exact ⟨f, rfl, b⟩
          · rw [e0, e]; exact ⟨f, rfl, c⟩
      have k3 : vx_J h3' 627 i = 2 ↔ vy_k ts i = 3 := by
        obtain ⟨a0, a1, a2, a3, a4, a5, a6, a7, a8, -⟩ := (vy_kr B3.1 hi).2
        constructor
        · intro t
          rcases (by omega : vy_k ts i = 0 ∨ vy_k ts i = 1 ∨ vy_k ts i = 2 ∨ vy_k ts i = 3 ∨ vy_k ts i = 4 ∨ (5 ≤ vy_k ts i ∧ vy_k ts i ≤ 9) ∨ (10 ≤ vy_k ts i ∧ vy_k ts i ≤ 13) ∨ 14 ≤ vy_k ts i) with u | u | u | u | u | u | u | u
          · have := a0 u; omega
          · have := a1 u; omega
          · have := (a2 u).1; omega
          · exact u
          · have := (a4 u).1; omega
          · have := (a5 u).1; omega
          · have := (a6 u).1; omega
          · have := (a7 u).1; omega
        · intro t; exact (a3 t).1
      rw [B3.2.1, Int.toNat_natCast]
      exact ⟨by omega, fun q => RL 0 (by decide) ⟨fun t => absurd rfl t, fun t => absurd (k3.mpr t) q⟩, fun q => RL 1 (by decide) ⟨fun _ => k3.mp q, fun _ => by decide⟩⟩
    · -- an atom
      have f3 : vx_fr (fun a k => (a = 660 ∧ k = 6 * cl + L.1) ∨ (a = 625 ∧ k = 10)) h h3' := vx_fr_sJ vx_fr_refl e3 (Or.inl ⟨rfl, rfl⟩)
      have g3 : vx_fr (fun a k => a = 660 ∧ k = 6 * cl + L.1) h h3' := vx_fr_sJ vx_fr_refl e3 ⟨rfl, rfl⟩
      have B3 : vy_rr h3' ts cl sd op i V O Pd F := vy_rr_fr B.1 g3 (fun k => by simp) (fun k => by simp) (by simp)
      have pl3 : vx_J h3' 660 (6 * cl + L.1) = vy_p ts i := by rw [e3, vx_J_eq (by have := ok.2.2.2.1 i hi; omega)]
      have a3 : vx_J h3' 625 58 = at_ := (vx_fr_J g3 (by simp)).trans B.2.2.1
      rw [a3] at qa
      have at3 := B.2.2.2.1
      have n33 : vy_k ts i ≠ 33 := fun t => (h2.mpr t) q2
      have y40 : vy_k ts i = 2 ∧ vy_k ts (i + 1) = 40 := (h3.mp q3).resolve_left n33
      have e0 : vy_li ts op i V O Pd F L at_ = match vy_am ts op false (decide (O.1 = -1)) i V O Pd F with
        | .inl p => .inl p
        | .inr q => .inr (q.1, q.2.1, q.2.2.2.2.2.2.1, q.2.2.2.2.2.2.2, vy_la L 14 q.2.2.2.2.2.1 (vy_p ts i) q.2.2.2.1, at_ + 1) := by
        unfold vy_li
        rw [if_neg n33, if_pos y40, if_neg (by omega)]
        rfl
      have c39 : vx_J h3' 639 cl = (if O.1 = -1 then 0 else O.1 - 4) := (vx_fr_J g3 (by simp)).trans B.2.2.2.2
      have hO := B.1.2.1.2.2
      refine vg_45_147 T3 ?_
      rw [B3.1.2.2.2.1, Int.toNat_natCast cl, c39]
      refine ⟨hr2, fun t => absurd q2 t, fun _ => ⟨by omega, fun q39 => ?_, fun q39 => ?_⟩⟩
      · have hne : ¬ O.1 = -1 := fun t => q39 (if_pos t)
        refine vc_45_at (d := d) (any := decide (O.1 = -1)) (c := 1) (kr := 0) (rl := 14) ok T3 B hL rfl B3 f3 pl3 ⟨by decide, fun t => absurd rfl t, fun t => absurd (of_decide_eq_true t) hne⟩ (Or.inr ⟨rfl, rfl, rfl, by omega⟩) (fun p g1 e f b => ?_) (fun q g1 e f c => ?_)
        · rw [e0, e]; exact ⟨f, rfl, b⟩
        · rw [e0, e]; exact ⟨f, rfl, c⟩
      · have hne : O.1 = -1 := by
          by_cases t : O.1 = -1
          · exact t
          · rw [if_neg t] at q39; omega
        refine vc_45_at (d := d) (any := decide (O.1 = -1)) (c := 1) (kr := 0) (rl := 14) ok T3 B hL rfl B3 f3 pl3 ⟨by decide, fun _ => decide_eq_true hne, fun _ => by decide⟩ (Or.inr ⟨rfl, rfl, rfl, by omega⟩) (fun p g1 e f b => ?_) (fun q g1 e f c => ?_)
        · rw [e0, e]; exact ⟨f, rfl, b⟩
        · rw [e0, e]; exact ⟨f, rfl, c⟩
    · -- too many atoms
      have g3 : vx_fr (fun a k => a = 660 ∧ k = 6 * cl + L.1) h h3' := vx_fr_sJ vx_fr_refl e3 ⟨rfl, rfl⟩
      have B3 : vy_rb h3' ts cl i V := vy_rb_fr B.1.1 g3 (fun k => by simp) (by simp) (by simp)
      have a3 : vx_J h3' 625 58 = at_ := (vx_fr_J g3 (by simp)).trans B.2.2.1
      rw [a3] at qa
      have n33 : vy_k ts i ≠ 33 := fun t => (h2.mpr t) q2
      have y40 : vy_k ts i = 2 ∧ vy_k ts (i + 1) = 40 := (h3.mp q3).resolve_left n33
      refine vx_CI_mono (vc_33 (d := d + 3) T3 ok B3 (by rw [vx_fr_J g3 (by simp)]; exact n1)) ?_
      rintro r17 h17 _ ⟨rfl, f17, b17⟩ _
      have e0 : vy_li ts op i V O Pd F L at_ = .inl (vy_p ts i) := by
        unfold vy_li
        rw [if_neg n33, if_pos y40, if_pos (by omega)]
      rw [e0]
      exact ⟨Or.inl rfl, vx_fr_trans (vx_fr_mono g3 (fun a k q => vy_Sz_w hL rfl (Or.inr (Or.inl ⟨Or.inr (Or.inr (Or.inl q.1)), q.2⟩)))) (vx_fr_mono f17 (fun a k q => vy_Sz_n (vy_Sn_q (vy_Sq_b q)))), rfl, b17⟩
    · -- one that must not be
      have y33 := h2.mp q2
      have g3 : vx_fr (fun a k => a = 660 ∧ k = 6 * cl + L.1) h h3' := vx_fr_sJ vx_fr_refl e3 ⟨rfl, rfl⟩
      have B3 : vy_rr h3' ts cl sd op i V O Pd F := vy_rr_fr B.1 g3 (fun k => by simp) (fun k => by simp) (by simp)
      have pl3 : vx_J h3' 660 (6 * cl + L.1) = vy_p ts i := by rw [e3, vx_J_eq (by have := ok.2.2.2.1 i hi; omega)]
      rw [B3.1.2.1] at e19
      have g19 : vx_fr (fun a k => a = 625 ∧ k = 10) h3' h19 := vx_fr_sJ vx_fr_refl e19 ⟨rfl, rfl⟩
      have f19 : vx_fr (fun a k => (a = 660 ∧ k = 6 * cl + L.1) ∨ (a = 625 ∧ k = 10)) h h19 := vx_fr_sJ (vx_fr_sJ vx_fr_refl e3 (Or.inl ⟨rfl, rfl⟩)) e19 (Or.inr ⟨rfl, rfl⟩)
      have C19 : vy_rb h19 ts cl (i + 1) V := vy_rb_at B3.1 e19 (j := i + 1) (by omega) (vy_nx ok hi (by omega)) (by omega)
      have B19 : vy_rr h19 ts cl sd op (i + 1) V O Pd F := by
        obtain ⟨b1, b2, b3, b4, b5, b6, b7⟩ := B3
        refine ⟨C19, vy_ro_fr b2 g19 (by simp), (vx_fr_J g19 (by simp)).trans b3, (vx_fr_J g19 (by simp)).trans b4, ⟨b5.1, (vx_fr_J g19 (by simp)).trans b5.2.1, b5.2.2.1, fun p hp => ?_⟩, ⟨(vx_fr_J g19 (by simp)).trans b6.1, (vx_fr_J g19 (by simp)).trans b6.2⟩, b7⟩
        rw [vx_fr_K g19 (by simp), vx_fr_J g19 (by simp)]
        exact b5.2.2.2 p hp
      have e0 : vy_li ts op i V O Pd F L at_ = match vy_am ts op false true (i + 1) V O Pd F with
       | .inl p => .inl p
       | .inr q => .inr (q.1, q.2.1, q.2.2.2.2.2.2.1, q.2.2.2.2.2.2.2, vy_la L 15 q.2.2.2.2.2.1 (vy_p ts i) q.2.2.2.1, at_) := if_pos y33
      refine vg_45_147 T19 ⟨hr2, fun _ => ?_, fun t => absurd t q2⟩
      refine vc_45_at (d := d) (any := true) (c := 0) (kr := 1) (rl := 15) ok T19 B hL rfl B19 f19 ((vx_fr_J g19 (by simp)).trans pl3) ⟨by decide, fun _ => rfl, fun _ => by decide⟩ (Or.inl ⟨rfl, rfl, rfl⟩) (fun p g1 e f b => ?_) (fun q g1 e f c => ?_)
      · rw [e0, e]; exact ⟨f, rfl, b⟩
      · rw [e0, e]; exact ⟨f, rfl, c⟩
  refine vx_CI_mono (vc_34 (s := 33) hT ok B.1.1 (by omega) rfl) ?_
  rintro r4 h4 hr4 ⟨rfl, c4⟩ _
  rcases c4 with ⟨rfl, y33⟩ | ⟨rfl, n33⟩
  · exact ⟨fun _ => GO 1 1 (by decide) (by decide) ⟨fun _ => y33, fun _ => by decide⟩ ⟨fun _ => Or.inl y33, fun _ => by decide⟩, fun t => absurd t (by decide)⟩
  · refine ⟨fun t => absurd rfl t, fun _ => ?_⟩
    have hk := vy_k2 (vy_kr B.1.1.1 hi).2
    have GN : ∀ (_ : ¬ (vy_k ts i = 2 ∧ vy_k ts (i + 1) = 40)), vx_W (d + 4 + 1) 45 98 [some (.ref 625), some (.int (vx_i ((6 * cl + L.1 : Nat) : Int))), some (.int (vx_i 0)), some (.int (vx_i 0)), none, none] [] h4 (vx_RI (vy_lR ts cl sd op O (vy_li ts op i V O Pd F L at_) h4)) := fun n40 => GO 0 0 (by decide) (by decide) ⟨fun t => absurd rfl t, fun t => absurd t n33⟩ ⟨fun t => absurd rfl t, fun t => absurd t (by rintro (u | u); exact n33 u; exact n40 u)⟩
    rw [B.1.1.2.1, Int.toNat_natCast, show ((i : Int) + 1).toNat = i + 1 by omega]
    refine ⟨by omega, fun q1 => GN (fun t => q1 (hk.mpr t.1)), fun q1 => ⟨by omega, ?_⟩⟩
    have k2 := hk.mp q1
    have hi1 := vy_nx ok hi (by omega)
    have hs := vy_sgn (vy_kr B.1.1.1 hi1).2 (x := 40) (by omega)
    rw [if_neg (by omega)] at hs
    refine ⟨fun q2 => GN (fun t => q2 (hs.mpr t.2).1), fun q2 => ⟨by omega, fun q3 => GN (fun t => q3 (hs.mpr t.2).2), fun q3 => GO 0 1 (by decide) (by decide) ⟨fun t => absurd rfl t, fun t => absurd t n33⟩ ⟨fun _ => Or.inr ⟨k2, hs.mp ⟨q2, q3⟩⟩, fun _ => by decide⟩⟩⟩
theorem vc_46_5 {h0 : ve_H} {R : vy_R6} {P : Int → ve_H → Prop} (ok : vy_ok ts) (F0 : ∀ p g, R = .inl p → vx_fr (vy_Sz cl sd) h0 g → vy_rbad p g → P 0 g) (G0 : ∀ q g, R = .inr q → vx_fr (vy_Sz cl sd) h0 g → vy_rs g ts cl sd op q.1 q.2.1 O q.2.2.1 q.2.2.2.1 q.2.2.2.2.1 q.2.2.2.2.2 → P 1 g) :
    ∀ (m i : Nat) (V Pd : vy_V) (F : vy_F) (L : vy_L) (at_ : Nat) (g : ve_H), m = 6 - L.1 → vx_T 625 672 g → vx_fr (vy_Sz cl sd) h0 g → vy_rs g ts cl sd op i V O Pd F L at_ → R = vy_bo ts op O m i V Pd F L at_ → vx_W (d + 5 + 1) 46 5 [some (.ref 625)] [] g (vx_RI P) := by
  intro m
  induction m with
  | zero =>
    intro i V Pd F L at_ g hm hT hf B hR
    have hL := B.2.1.2.1
    refine vg_46_5 hT (vx_CI_mono (vc_45 (d := d) ok hT B) ?_)
    rintro r1 h1 _ ⟨f1, p1⟩ T1
    rw [if_neg (by omega)] at p1
    obtain ⟨rfl, b⟩ := p1
    exact ⟨fun t => absurd rfl t, fun _ => F0 _ h1 hR (vx_fr_trans hf f1) b⟩
  | succ m ih =>
    intro i V Pd F L at_ g hm hT hf B hR
    refine vg_46_5 hT (vx_CI_mono (vc_45 (d := d) ok hT B) ?_)
    rintro r1 h1 _ ⟨f1, p1⟩ T1
    rw [if_pos (by omega)] at p1
    have F1 := vx_fr_trans hf f1
    have hR : R = match vy_li ts op i V O Pd F L at_ with
      | .inl p => .inl p
      | .inr q => if vy_k ts q.1 = 44 then vy_bo ts op O m (q.1 + 1) q.2.1 q.2.2.1 q.2.2.2.1 q.2.2.2.2.1 q.2.2.2.2.2 else .inr q := hR
    cases e : vy_li ts op i V O Pd F L at_ with
    | inl p =>
      rw [e] at p1 hR
      obtain ⟨rfl, b⟩ := p1
      exact ⟨fun t => absurd rfl t, fun _ => F0 p h1 hR F1 b⟩
    | inr q =>
      rw [e] at p1 hR
      obtain ⟨rfl, C1⟩ := p1
      have hR : R = if vy_k ts q.1 = 44 then vy_bo ts op O m (q.1 + 1) q.2.1 q.2.2.1 q.2.2.2.1 q.2.2.2.2.1 q.2.2.2.2.2 else .inr q := hR
      have hLn := vy_li_L e
      refine ⟨fun _ => vx_CI_mono (vc_35 (d := d + 4) (s := 44) T1 ok C1.1.1 (by omega) rfl) ?_, fun t => absurd t (by decide)⟩
      rintro r3 h3 _ (⟨rfl, q44, e3, B3⟩ | ⟨rfl, q44, rfl⟩) T3
      · rw [if_pos q44] at hR
        have f3 : vx_fr (fun a k => a = 625 ∧ k = 10) h1 h3 := vx_fr_sJ vx_fr_refl e3 ⟨rfl, rfl⟩
        obtain ⟨⟨b1, b2, b3, b4, b5, b6, b7⟩, c2, c3, c4, c5⟩ := C1
        refine ⟨fun _ => ih (q.1 + 1) q.2.1 q.2.2.1 q.2.2.2.1 q.2.2.2.2.1 q.2.2.2.2.2 h3 (by omega) T3 (vx_fr_trans F1 (vx_fr_mono f3 (fun a k q => vy_Sz_n (vy_Sn_q (vy_Sq_10 q))))) ⟨⟨B3, vy_ro_fr b2 f3 (by simp), (vx_fr_J f3 (by simp)).trans b3, (vx_fr_J f3 (by simp)).trans b4, ⟨b5.1, (vx_fr_J f3 (by simp)).trans b5.2.1, b5.2.2.1, fun p hp => ?_⟩, ⟨(vx_fr_J f3 (by simp)).trans b6.1, (vx_fr_J f3 (by simp)).trans b6.2⟩, b7⟩, ⟨(vx_fr_J f3 (by simp)).trans c2.1, c2.2.1, fun i hi => vy_rq_fr (c2.2.2 i hi) f3 (by simp)⟩, (vx_fr_J f3 (by simp)).trans c3, c4, (vx_fr_J f3 (by simp)).trans c5⟩ hR, fun t => absurd t (by decide)⟩
        rw [vx_fr_K f3 (by simp), vx_fr_J f3 (by simp)]
        exact b5.2.2.2 p hp
      · rw [if_neg q44] at hR
        exact ⟨fun t => absurd rfl t, fun _ => G0 q h3 hR F1 C1⟩
theorem vc_46 {x : Int} (ok : vy_ok ts) (hT : vx_T 625 672 h) (B : vy_rr h ts cl sd op i V O Pd F) (Bl : vy_rl h cl Pd F L) (hL : L.1 = 0) (B39 : vx_J h 639 cl = (if O.1 = -1 then 0 else O.1 - 4)) : vx_CI (d + 6) 46 [.ref 625] h (vy_lR ts cl sd op O (vy_bo ts op O 6 i V Pd F L 0) h) := by
  refine vg_46 hT (fun h1 e1 T1 => ?_)
  have f1 : vx_fr (fun a k => a = 625 ∧ k = 58) h h1 := vx_fr_sJ vx_fr_refl e1 ⟨rfl, rfl⟩
  refine vc_46_5 (d := d) (h0 := h) (R := vy_bo ts op O 6 i V Pd F L 0) ok (fun p g e f b => ?_) (fun q g e f c => ?_) 6 i V Pd F L 0 h1 (by omega) T1 (vx_fr_mono f1 (fun a k q => vy_Sz_58 q)) ⟨vy_rr_fr B f1 (fun k => by simp) (fun k => by simp) (by simp), ⟨(vx_fr_J f1 (by simp)).trans Bl.1, Bl.2.1, fun i hi => absurd hi (by omega)⟩, by rw [e1, vx_J_eq (by decide)]; rfl, by decide, (vx_fr_J f1 (by simp)).trans B39⟩ rfl
  · rw [e]; exact ⟨f, rfl, b⟩
  · rw [e]; exact ⟨f, rfl, c⟩
end
