/-! Reading a clause: the class, all together -/
section
variable {d i o pi n : Nat} {h h1 : ve_H} {ts : vy_T} {V Pd : vy_V} {O : vy_O} {F : vy_F} {L : vy_L} {op : Bool} {x y : Int}
theorem vu_Sd_0 (ho : o = pi + 10 + 9 * n) {a k : Nat} (q : (a = 7 ∧ k = 8) ∨ (a = o ∧ (k = 0 ∨ k = 2 ∨ k = 5 ∨ k = 6 ∨ k = 7))) : vu_Sd pi n a k := by omega
theorem vu_Sd_h (hn : n < 31) (ho : o = pi + 10 + 9 * n) (hp : vx_o 1 625 5 pi) {a k : Nat} (q : (a = o ∧ k = 0) ∨ a = vx_r o 1) : vu_Sd pi n a k := by
  have hO : vx_o 1 625 7 o := by rw [ho]; exact vx_rk hp hn
  have r := (vx_ro hO).1
  omega
theorem vu_Sd_7 {a k : Nat} (q : a = 7 ∧ (k = 9 ∨ k = 11 ∨ k = 12)) : vu_Sd pi n a k := by omega
theorem vu_Sd_18 {a k : Nat} (q : a = 18) : vu_Sd pi n a k := by omega
theorem vu_Sd_pi {a k : Nat} (q : a = pi ∧ k = 7) : vu_Sd pi n a k := by omega
/-- a rule, its program and the reader lie apart -/
theorem vu_ap (hn : n < 31) (ho : o = pi + 10 + 9 * n) (hp : vx_o 1 625 5 pi) : (pi = 39 ∨ pi = 328) ∧ vx_r pi 0 = pi + 1 ∧ vx_r pi 1 = pi + 2 ∧ vx_r o 1 = o + 1 := by
  have hO : vx_o 1 625 7 o := by rw [ho]; exact vx_rk hp hn
  exact ⟨(vx_po hp).2.2.2.2.2.2, (vx_po hp).1, (vx_po hp).2.1, (vx_ro hO).1⟩
theorem vu_B3 (hn : n < 31) (ho : o = pi + 10 + 9 * n) (hp : vx_o 1 625 5 pi) (hO : vx_o 1 625 7 o) (f : vx_fr (fun a k => (a = 7 ∧ k = 8) ∨ (a = o ∧ (k = 0 ∨ k = 2 ∨ k = 5 ∨ k = 6 ∨ k = 7))) h h1) (K : vt_kc h1 0 ts) (h9 : vx_J h 7 9 = i) (hi : i < ts.length) (h6 : ve_R h1 7 6 = some pi) (h7 : vx_J h1 7 7 = (if op = true then 1 else 0)) (C : vy_cp h pi Pd) (hF : vy_cf h F) (c8 : ve_R h1 7 8 = some o) (c2 : vx_J h1 o 2 = -1) (c5 : vx_J h1 o 5 = 0) : vy_cr h1 ts o pi op i vu_V0 vu_O0 Pd F := by
  obtain ⟨a1, a2, a3, -⟩ := vu_ap hn ho hp
  refine ⟨⟨K, (vx_fr_J f (by omega)).trans h9, hi, c8, hO, by rw [c5]; rfl, by decide, fun v hv => absurd (show v < 0 from hv) (by omega)⟩, ⟨c2, fun t => absurd rfl t⟩, h6, h7, vy_cp_fr C f ⟨by omega, fun k => ⟨?_, ?_⟩⟩, (vx_fr_J f (by omega)).trans hF.1, (vx_fr_J f (by omega)).trans hF.2⟩
  · rw [a2]; omega
  · rw [a3]; omega
theorem vu_nW (hn : n < 31) (ho : o = pi + 10 + 9 * n) (hp : vx_o 1 625 5 pi) : (∀ k, ¬ vr_W (pi + 6) 4 k ∧ ¬ vr_W (pi + 6) 5 k ∧ ¬ vr_W (pi + 6) 6 k ∧ ¬ vr_W (pi + 6) 19 k ∧ ¬ vr_W (pi + 6) 20 k ∧ ¬ vr_W (pi + 6) 7 k ∧ ¬ vr_W (pi + 6) (vx_r pi 0) k ∧ ¬ vr_W (pi + 6) (vx_r pi 1) k) ∧ (¬ vr_W (pi + 6) o 5 ∧ ¬ vr_W (pi + 6) o 2 ∧ ¬ vr_W (pi + 6) o 3 ∧ ¬ vr_W (pi + 6) o 4 ∧ ¬ vr_W (pi + 6) pi 6) ∧ ¬ vr_W (pi + 6) pi 7 := by
  obtain ⟨a1, a2, a3, a4⟩ := vu_ap hn ho hp
  obtain ⟨-, b1, b2, b3⟩ := vu_fK hp
  simp only [vr_W, b1, b2, b3, a2, a3]
  clear b1 b2 b3 a2 a3 a4 hp
  refine ⟨fun k => ⟨?_, ?_, ?_, ?_, ?_, ?_, ?_, ?_⟩, ⟨?_, ?_, ?_, ?_, ?_⟩, ?_⟩ <;> (intro t; rcases t with t | t | t | t <;> omega)
theorem vu_nh (hn : n < 31) (ho : o = pi + 10 + 9 * n) (hp : vx_o 1 625 5 pi) {S : Nat → Nat → Prop} (hS : ∀ a k, S a k → a = 18 ∨ (a = o ∧ k = 0) ∨ a = vx_r o 1) : (∀ k, ¬ S 4 k ∧ ¬ S 5 k ∧ ¬ S 6 k ∧ ¬ S 19 k ∧ ¬ S 20 k ∧ ¬ S 7 k ∧ ¬ S (vx_r pi 0) k ∧ ¬ S (vx_r pi 1) k) ∧ (¬ S o 5 ∧ ¬ S o 2 ∧ ¬ S o 3 ∧ ¬ S o 4 ∧ ¬ S pi 6) := by
  obtain ⟨a1, a2, a3, a4⟩ := vu_ap hn ho hp
  have N : ∀ a k, ¬ (a = 18 ∨ (a = o ∧ k = 0) ∨ a = vx_r o 1) → ¬ S a k := fun a k q t => q (hS a k t)
  rw [a4] at N
  rw [a2, a3]
  clear a2 a3 a4 hp hS
  refine ⟨fun k => ⟨N _ _ ?_, N _ _ ?_, N _ _ ?_, N _ _ ?_, N _ _ ?_, N _ _ ?_, N _ _ ?_, N _ _ ?_⟩, ⟨N _ _ ?_, N _ _ ?_, N _ _ ?_, N _ _ ?_, N _ _ ?_⟩⟩ <;> (intro t; rcases t with t | t | t <;> omega)
theorem vu_cr_h (hn : n < 31) (ho : o = pi + 10 + 9 * n) (hp : vx_o 1 625 5 pi) (C : vy_cr h ts o pi op i V O Pd F) (f : vx_fr (fun a k => (a = o ∧ k = 0) ∨ a = vx_r o 1) h h1) : vy_cr h1 ts o pi op i V O Pd F := by
  have N := vu_nh (S := fun a k => (a = o ∧ k = 0) ∨ a = vx_r o 1) hn ho hp (fun a k q => Or.inr q)
  exact vy_cr_fr C f N.1 N.2
theorem vu_cr_18 (hn : n < 31) (ho : o = pi + 10 + 9 * n) (hp : vx_o 1 625 5 pi) (C : vy_cr h ts o pi op i V O Pd F) (f : vx_fr (fun a _ => a = 18) h h1) : vy_cr h1 ts o pi op i V O Pd F := by
  have N := vu_nh (S := fun a _ => a = 18) hn ho hp (fun a k q => Or.inl q)
  exact vy_cr_fr C f N.1 N.2
theorem vu_cr_W (hn : n < 31) (ho : o = pi + 10 + 9 * n) (hp : vx_o 1 625 5 pi) (C : vy_cr h ts o pi op i V O Pd F) (f : vx_fr (vr_W (pi + 6)) h h1) : vy_cr h1 ts o pi op i V O Pd F := by
  have N := vu_nW hn ho hp
  exact vy_cr_fr C f N.1 N.2.1
theorem vu_Sc_W (hp : vx_o 1 625 5 pi) {a k : Nat} (q : vr_W (pi + 6) a k) : vu_Sc pi n a k := by
  obtain ⟨-, b1, b2, b3⟩ := vu_fK hp
  simp only [vr_W, b1, b2, b3] at q
  omega
theorem vu_keepW {RR : Nat → vu_R} (hp : vx_o 1 625 5 pi) (hn : n ≤ 30) (f : vx_fr (vr_W (pi + 6)) h h1) (hr : ∀ r, r < n → vu_cr h (pi + 10 + 9 * r) (RR r)) : (∀ r, r < n → vu_cr h1 (pi + 10 + 9 * r) (RR r)) ∧ vx_J h1 pi 7 = vx_J h pi 7 := by
  refine ⟨fun r hr2 => vu_cr_fr (vx_rk hp (by omega)) (hr r hr2) f (fun a k h1 h2 => ?_), vx_fr_J f (vu_nW (show 0 < 31 by omega) rfl hp).2.2⟩
  obtain ⟨-, b1, b2, b3⟩ := vu_fK hp
  simp only [vr_W, b1, b2, b3]
  clear b1 b2 b3
  omega
/-- what a body's reading and its plan leave of a rule -/
theorem vu_rA (hO : vx_o 1 625 7 o) (hp : vx_o 1 625 5 pi) (hn : n < 31) (ho : o = pi + 10 + 9 * n) : (¬ vy_Sy o pi op o 0 ∧ ∀ k, ¬ vy_Sy o pi op (vx_r o 1) k) ∧ ¬ vy_Sy o pi op pi 7 := by
  obtain ⟨a1, a2, a3, a4⟩ := vu_ap hn ho hp
  obtain ⟨-, r8, r9, r10, r11, -⟩ := vx_ro hO
  rw [a4]
  refine ⟨⟨?_, fun k => ?_⟩, ?_⟩ <;> (intro t; rcases t with (t | t | ⟨-, t⟩) | t | t | t <;> omega)
abbrev vu_Sg (o pi a k : Nat) : Prop := vz_Sp o a k ∨ (a = 7 ∧ (k = 11 ∨ k = 12)) ∨ (a = pi ∧ k = 7)
theorem vu_rB (hO : vx_o 1 625 7 o) (hp : vx_o 1 625 5 pi) (hn : n < 31) (ho : o = pi + 10 + 9 * n) : (¬ vu_Sg o pi 7 9 ∧ ¬ vu_Sg o pi pi 6) ∧ (∀ k, ¬ vu_Sg o pi (vx_r pi 0) k ∧ ¬ vu_Sg o pi (vx_r pi 1) k) ∧ (¬ vu_Sg o pi o 0 ∧ ¬ vu_Sg o pi o 2 ∧ ¬ vu_Sg o pi o 3 ∧ ¬ vu_Sg o pi o 4 ∧ ¬ vu_Sg o pi o 5 ∧ ¬ vu_Sg o pi o 6) ∧ (∀ k, ¬ vu_Sg o pi (vx_r o 1) k) ∧ (∀ k, ¬ vu_Sg o pi (vx_r o 8) k ∧ ¬ vu_Sg o pi (vx_r o 9) k ∧ ¬ vu_Sg o pi (vx_r o 10) k ∧ ¬ vu_Sg o pi (vx_r o 11) k) ∧ ¬ vz_Sp o pi 7 := by
  obtain ⟨a1, a2, a3, a4⟩ := vu_ap hn ho hp
  obtain ⟨-, r8, r9, r10, r11, r12, r13, r14, -⟩ := vx_ro hO
  simp only [vu_Sg, vz_Sp, a2, a3, a4, r8, r9, r10, r11, r12, r13, r14]
  clear a2 a3 a4 r8 r9 r10 r11 r12 r13 r14 hO hp
  refine ⟨⟨?_, ?_⟩, fun k => ⟨?_, ?_⟩, ⟨?_, ?_, ?_, ?_, ?_, ?_⟩, fun k => ?_, fun k => ⟨?_, ?_, ?_, ?_⟩, ?_⟩
  · intro t; rcases t with (t | t | t | t) | t | t <;> omega
  · intro t; rcases t with (t | t | t | t) | t | t <;> omega
  · intro t; rcases t with (t | t | t | t) | t | t <;> omega
  · intro t; rcases t with (t | t | t | t) | t | t <;> omega
  · intro t; rcases t with (t | t | t | t) | t | t <;> omega
  · intro t; rcases t with (t | t | t | t) | t | t <;> omega
  · intro t; rcases t with (t | t | t | t) | t | t <;> omega
  · intro t; rcases t with (t | t | t | t) | t | t <;> omega
  · intro t; rcases t with (t | t | t | t) | t | t <;> omega
  · intro t; rcases t with (t | t | t | t) | t | t <;> omega
  · intro t; rcases t with (t | t | t | t) | t | t <;> omega
  · intro t; rcases t with (t | t | t | t) | t | t <;> omega
  · intro t; rcases t with (t | t | t | t) | t | t <;> omega
  · intro t; rcases t with (t | t | t | t) | t | t <;> omega
  · intro t; rcases t with (t | t | t | t) | t | t <;> omega
  · intro t; rcases t with t | t | t | t <;> omega
abbrev vu_Sh (pi a k : Nat) : Prop := (a = 7 ∧ (k = 11 ∨ k = 12)) ∨ (a = pi ∧ k = 7)
theorem vu_rC (hO : vx_o 1 625 7 o) (hp : vx_o 1 625 5 pi) (hn : n < 31) (ho : o = pi + 10 + 9 * n) : (∀ k, ¬ vu_Sh pi (vx_r o 12) k ∧ ¬ vu_Sh pi (vx_r o 13) k ∧ ¬ vu_Sh pi (vx_r o 14) k) ∧ ¬ vu_Sh pi o 15 ∧ pi ≠ 7 := by
  obtain ⟨a1, -⟩ := vu_ap hn ho hp
  obtain ⟨-, -, -, -, -, r12, r13, r14, -⟩ := vx_ro hO
  simp only [vu_Sh, r12, r13, r14]
  clear r12 r13 r14 hO hp
  refine ⟨fun k => ⟨?_, ?_, ?_⟩, ?_, ?_⟩
  · intro t; rcases t with t | t <;> omega
  · intro t; rcases t with t | t <;> omega
  · intro t; rcases t with t | t <;> omega
  · intro t; rcases t with t | t <;> omega
  · omega
/-- a clause that is a rule, from behind its body on -/
theorem vu_end {RR : Nat → vu_R} {cnt : Nat} {rr : Nat → Nat → Int} {g g1 g2 g3 : ve_H} {G r hd : Int} {A : Nat → Int} {j : Nat} (hp : vx_o 1 625 5 pi) (hn : n < 30) (ho : o = pi + 10 + 9 * n) (hO : vx_o 1 625 7 o) (W : vz_wf O.1 V.1 L) (F0 : vx_fr (vu_Sd pi n) h g) (K : vt_kc h 0 ts) (h6 : ve_R h 7 6 = some pi) (h7 : vx_J h 7 7 = 1) (hR : ∀ r, r < n → vu_cr h (pi + 10 + 9 * r) (RR r)) (hP : vr_P (pi + 6) 5 cnt rr h) (hpn : vx_J h pi 7 = n) (hc : 5 * cnt ≤ j) (F1 : F.1 ≠ 1)
    (C : vy_cr g ts o pi true j V O Pd F) (Lg : vy_cl g o L) (h0 : vx_J g o 0 = hd) (hA : ∀ k, k < 4 → vx_K g (vx_r o 1) k = A k) (pg : vx_J g pi 7 = n) (hG : 0 ≤ G ∧ G < 256) (hg : ∀ i, vb G i = true ↔ vz_go g o V.1 i) (P : vz_pP o L O.1 G g r g1) (f2 : vx_fr (fun a k => a = 7 ∧ (k = 11 ∨ k = 12)) g1 g2) (C2 : vy_cf g2 (vz_un (vb r) V F V.1)) (e3 : g3 = vx_sJ g2 pi 7 ((vx_J g2 pi 7) + 1)) :
    vx_fr (vu_Sc pi n) h g3 ∧ vu_cS g3 ts pi j Pd (vz_un (vz_s L) V F V.1) (n + 1) (fun r => if r = n then (hd, A, O, V.1, L) else RR r) cnt rr := by
  have hn31 : n < 31 := by omega
  obtain ⟨⟨g79, gpi⟩, gp, ⟨g0, g2', g3', g4, g5, g6⟩, g1', g8, gq⟩ := vu_rB hO hp hn31 ho
  obtain ⟨s12, s15, pi7⟩ := vu_rC hO hp hn31 ho
  obtain ⟨n', σ, b, d1, d2, d3, d4, d5, d6⟩ := P.2
  have f1 := P.1
  have hbd : ∀ i, vb r i = true ↔ vz_bd L i := by rw [d3]; exact vz_st_bd W d2 d1 d4
  have f3 : vx_fr (fun a k => a = pi ∧ k = 7) g2 g3 := vx_fr_sJ vx_fr_refl e3 ⟨rfl, rfl⟩
  have c7 : vx_J g2 pi 7 = n := (vx_fr_J f2 (fun t => pi7 t.1)).trans ((vx_fr_J f1 gq).trans pg)
  rw [c7] at e3
  have T1 : vx_fr (vu_Sd pi n) h g1 := vx_fr_trans F0 (vx_fr_mono f1 (fun a k q => vu_Sd_p hn31 ho hp q))
  have T2 : vx_fr (vu_Sd pi n) h g2 := vx_fr_trans T1 (vx_fr_mono f2 (fun a k q => vu_Sd_7 ⟨q.1, Or.inr q.2⟩))
  have T3 : vx_fr (vu_Sd pi n) h g3 := vx_fr_trans T2 (vx_fr_mono f3 (fun a k q => vu_Sd_pi q))
  obtain ⟨k1, k2, k3, k4, k5⟩ := vu_keep hp (Nat.le_of_lt hn) T3 K h6 h7 hR hP
  have ff : vx_fr (vu_Sg o pi) g g3 := vx_fr_trans (vx_fr_trans (vx_fr_mono f1 (fun a k q => Or.inl q)) (vx_fr_mono f2 (fun a k q => Or.inr (Or.inl q)))) (vx_fr_mono f3 (fun a k q => Or.inr (Or.inr q)))
  have fs : vx_fr (vu_Sh pi) g1 g3 := vx_fr_trans (vx_fr_mono f2 (fun a k q => Or.inl q)) (vx_fr_mono f3 (fun a k q => Or.inr q))
  have eun : vz_un (vb r) V F V.1 = vz_un (vz_s L) V F V.1 := vz_un_congr V.1 (fun i _ => by
    cases e : vz_s L i with
    | true => exact (hbd i).mpr (vz_s_iff.mp e)
    | false =>
      cases e2 : vb r i with
      | false => rfl
      | true => have := vz_s_iff.mpr ((hbd i).mp e2); rw [e] at this; exact absurd this (by decide))
  have e3' : vx_J g3 pi 7 = ((n + 1 : Nat) : Int) := by
    have : vx_rI ((n : Int) + 1) := by clear hR P d2 d4 d6 hbd; omega
    rw [e3, vx_J_eq this]
    exact (Int.natCast_succ n).symm
  refine ⟨vx_fr_mono T3 (fun a k q => Or.inl q), k1, (vx_fr_J ff g79).trans C.1.2.1, C.1.2.2.1, k2, k3, vy_cp_fr C.2.2.2.2.1 ff ⟨gpi, gp⟩, ?_, vz_un1 F1 V.1, e3', hn, fun r' hr' => ?_, k5, hc⟩
  · rw [eun] at C2
    exact ⟨(vx_fr_J f3 (fun t => pi7 t.1.symm)).trans C2.1, (vx_fr_J f3 (fun t => pi7 t.1.symm)).trans C2.2⟩
  · by_cases q : r' = n
    · show vu_cr g3 (pi + 10 + 9 * r') (if r' = n then (hd, A, O, V.1, L) else RR r')
      rw [if_pos q, q, ← ho]
      refine ⟨(vx_fr_J ff g0).trans h0, fun k hk => (vx_fr_K ff (g1' k)).trans (hA k hk), vy_co_fr C.2.1 ff ⟨g2', g3', g4⟩, (vx_fr_J ff g5).trans C.1.2.2.2.2.2.1, vy_cl_fr Lg ff ⟨g6, g8⟩, G, r, hG, fun i => ?_, ⟨n', σ, b, d1, vz_st_fr d2 fs s12, d3, d4, fun t => (vx_fr_J fs s15).trans (d5 t), fun t => ?_⟩, hbd⟩
      · rw [hg i]
        unfold vz_go vu_go
        rw [h0]
        show (if hd = -1 then i < V.1 else ∃ k, k < 4 ∧ vz_v (vx_K g (vx_r o 1) k) i) ↔ (if hd = -1 then i < V.1 else ∃ k, k < 4 ∧ vz_v (A k) i)
        by_cases q1 : hd = -1
        · rw [if_pos q1, if_pos q1]
        · rw [if_neg q1, if_neg q1]
          constructor
          · rintro ⟨k, hk, t⟩; exact ⟨k, hk, by rw [← hA k hk]; exact t⟩
          · rintro ⟨k, hk, t⟩; exact ⟨k, hk, by rw [hA k hk]; exact t⟩
      · obtain ⟨s, s1, s2⟩ := d6 t
        exact ⟨s, (vx_fr_J fs s15).trans s1, s2⟩
    · show vu_cr g3 (pi + 10 + 9 * r') (if r' = n then (hd, A, O, V.1, L) else RR r')
      rw [if_neg q]
      exact k4 r' (Nat.lt_of_le_of_ne (Nat.le_of_lt_succ hr') q)
end
