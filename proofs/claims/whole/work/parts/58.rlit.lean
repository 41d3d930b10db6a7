/-! Reading literals: the reference, what it holds -/
def vy_sr (x : Int) : Int := if x ≤ 13 then x + 290 else x
def vy_rk (kd : Int) : Int := if kd = 14 then 0 else if kd = 15 then 1 else if kd = 5 then 3 else 2
/-- a literal of the reference -/
def vy_rq (h : ve_H) (l : Nat) (Pd : vy_V) (F : vy_F) (kd e pl : Int) (A : Nat → Int) : Prop :=
  vx_J h 660 l = pl ∧ vx_J h 643 l = vy_rk kd ∧ ∃ m : Nat, m ≤ 4 ∧ (∀ k, k < m → vy_tr (A k) (vx_J h 645 (4 * l + k)) (vx_K h 646 (4 * l + k))) ∧ (∀ k, m ≤ k → k < 4 → A k = 0) ∧
  ((kd = 14 ∨ kd = 15) → 1 ≤ m ∧ vx_J h 661 l = m ∧ vx_J h 644 l = (if e = -1 then 0 else e) ∧ (F.1 = 0 → ∃ p : Nat, p < Pd.1 ∧ e = p ∧ Pd.2.2 p = m)) ∧ (kd = 5 → m = 3 ∧ vx_J h 644 l = e) ∧ (vy_rel kd → m = 2 ∧ vx_J h 644 l = vy_sr kd)
def vy_rl (h : ve_H) (cl : Nat) (Pd : vy_V) (F : vy_F) (L : vy_L) : Prop := vx_J h 641 cl = L.1 ∧ L.1 ≤ 6 ∧ ∀ i, i < L.1 → vy_rq h (6 * cl + i) Pd F (L.2.1 i) (L.2.2.1 i) (L.2.2.2.1 i) (L.2.2.2.2 i)
abbrev vy_Sw (cl l a k : Nat) : Prop := vy_Sr cl a k ∨ ((a = 643 ∨ a = 644 ∨ a = 660 ∨ a = 661) ∧ k = l) ∨ ((a = 645 ∨ a = 646) ∧ 4 * l ≤ k ∧ k < 4 * l + 4)
abbrev vy_Su (cl sd l a k : Nat) : Prop := vy_Sn cl sd a k ∨ vy_Sw cl l a k ∨ (a = 625 ∧ k = 58)
abbrev vy_Sz (cl sd a k : Nat) : Prop := vy_Sn cl sd a k ∨ (a = 625 ∧ k = 58) ∨ (a = 641 ∧ k = cl) ∨ ((a = 643 ∨ a = 644 ∨ a = 660 ∨ a = 661) ∧ 6 * cl ≤ k ∧ k < 6 * cl + 6) ∨ ((a = 645 ∨ a = 646) ∧ 24 * cl ≤ k ∧ k < 24 * cl + 24)
/-- the reference's reader within a body -/
def vy_rs (h : ve_H) (ts : vy_T) (cl sd : Nat) (op : Bool) (i : Nat) (V : vy_V) (O : vy_O) (Pd : vy_V) (F : vy_F) (L : vy_L) (at_ : Nat) : Prop := vy_rr h ts cl sd op i V O Pd F ∧ vy_rl h cl Pd F L ∧ vx_J h 625 58 = at_ ∧ at_ ≤ 3 ∧ vx_J h 639 cl = (if O.1 = -1 then 0 else O.1 - 4)
def vy_lR (ts : vy_T) (cl sd : Nat) (op : Bool) (O : vy_O) (R : vy_R6) (h : ve_H) (r : Int) (h1 : ve_H) : Prop := vx_fr (vy_Sz cl sd) h h1 ∧ match R with
  | .inl p => r = 0 ∧ vy_rbad p h1
  | .inr q => r = 1 ∧ vy_rs h1 ts cl sd op q.1 q.2.1 O q.2.2.1 q.2.2.2.1 q.2.2.2.2.1 q.2.2.2.2.2
section
variable {d i cl sd l a k : Nat} {h h1 g : ve_H} {ts : vy_T} {V Pd : vy_V} {O : vy_O} {F : vy_F} {L : vy_L} {op : Bool} {at_ : Nat}
theorem vy_Sz_n (q : vy_Sn cl sd a k) : vy_Sz cl sd a k := Or.inl q
theorem vy_Sz_58 (q : a = 625 ∧ k = 58) : vy_Sz cl sd a k := Or.inr (Or.inl q)
theorem vy_Sz_641 (q : a = 641 ∧ k = cl) : vy_Sz cl sd a k := Or.inr (Or.inr (Or.inl q))
theorem vy_Sn_r (q : vy_Sr cl a k) : vy_Sn cl sd a k := by
  rcases q with q | q | q | q
  · exact Or.inl (Or.inl (by omega))
  · exact Or.inl (Or.inr (Or.inl q))
  · exact Or.inl (Or.inr (Or.inr (Or.inl q)))
  · exact Or.inl (Or.inr (Or.inr (Or.inr (Or.inl q))))
theorem vy_Sz_w {n : Nat} (hn : n < 6) (hl : l = 6 * cl + n) (q : vy_Sw cl l a k) : vy_Sz cl sd a k := by
  rcases q with q | q | q
  · exact Or.inl (vy_Sn_r q)
  · exact Or.inr (Or.inr (Or.inr (Or.inl ⟨q.1, by omega, by omega⟩)))
  · exact Or.inr (Or.inr (Or.inr (Or.inr ⟨q.1, by omega, by omega⟩)))
theorem vy_Sw_r (q : vy_Sr cl a k) : vy_Sw cl l a k := Or.inl q
theorem vy_Sw_10 (q : a = 625 ∧ k = 10) : vy_Sw cl l a k := Or.inl (Or.inl (by omega))
theorem vy_Sw_b (q : vy_Sb a k) : vy_Sw cl l a k := Or.inl (Or.inl (by omega))
theorem vy_rq_fr {S : Nat → Nat → Prop} {kd e p : Int} {A : Nat → Int} (Q : vy_rq h l Pd F kd e p A) (f : vx_fr S h h1) (hs : ¬ S 660 l ∧ ¬ S 643 l ∧ ¬ S 661 l ∧ ¬ S 644 l ∧ ∀ k, k < 4 → ¬ S 645 (4 * l + k) ∧ ¬ S 646 (4 * l + k)) : vy_rq h1 l Pd F kd e p A := by
  obtain ⟨q1, q2, m, q3, q4, q5, q6, q7, q8⟩ := Q
  obtain ⟨s1, s2, s3, s4, s5⟩ := hs
  have e4 := vx_fr_J f s4
  refine ⟨(vx_fr_J f s1).trans q1, (vx_fr_J f s2).trans q2, m, q3, fun k hk => ?_, q5, fun t => ?_, fun t => ?_, fun t => ?_⟩
  · rw [vx_fr_J f (s5 k (by omega)).1, vx_fr_K f (s5 k (by omega)).2]; exact q4 k hk
  · obtain ⟨a1, a2, a3, a4⟩ := q6 t
    exact ⟨a1, (vx_fr_J f s3).trans a2, e4.trans a3, a4⟩
  · exact ⟨(q7 t).1, e4.trans (q7 t).2⟩
  · exact ⟨(q8 t).1, e4.trans (q8 t).2⟩
theorem vy_rq_mono {Pd' : vy_V} {F' : vy_F} {kd e p : Int} {A : Nat → Int} (Q : vy_rq h l Pd F kd e p A) (hF : F'.1 = 0 → F.1 = 0) (hP : ∀ p, p < Pd.1 → p < Pd'.1 ∧ Pd'.2.2 p = Pd.2.2 p) : vy_rq h l Pd' F' kd e p A := by
  obtain ⟨q1, q2, m, q3, q4, q5, q6, q7, q8⟩ := Q
  refine ⟨q1, q2, m, q3, q4, q5, fun t => ?_, q7, q8⟩
  obtain ⟨a1, a2, a3, a4⟩ := q6 t
  refine ⟨a1, a2, a3, fun t => ?_⟩
  obtain ⟨p, b1, b2, b3⟩ := a4 (hF t)
  exact ⟨p, (hP p b1).1, b2, (hP p b1).2.trans b3⟩
theorem vy_rl_add {Pd' : vy_V} {F' : vy_F} {kd e p : Int} {A : Nat → Int} (R : vy_rl h cl Pd F L) (hL : L.1 < 6) (f : vx_fr (vy_Su cl sd (6 * cl + L.1)) h g) (hF : F'.1 = 0 → F.1 = 0) (hP : ∀ p, p < Pd.1 → p < Pd'.1 ∧ Pd'.2.2 p = Pd.2.2 p) (Q : vy_rq g (6 * cl + L.1) Pd' F' kd e p A) (e1 : h1 = vx_sJ g 641 cl ((L.1 : Int) + 1)) : vy_rl h1 cl Pd' F' (vy_la L kd e p A) := by
  have f1 : vx_fr (fun a k => a = 641 ∧ k = cl) g h1 := vx_fr_sJ vx_fr_refl e1 ⟨rfl, rfl⟩
  obtain ⟨r1, r2, r3⟩ := R
  refine ⟨?_, by show L.1 + 1 ≤ 6; omega, fun i hi => ?_⟩
  · rw [e1, vx_J_eq (by omega)]; rfl
  have hi : i < L.1 + 1 := hi
  show vy_rq h1 (6 * cl + i) Pd' F' (if i = L.1 then kd else L.2.1 i) (if i = L.1 then e else L.2.2.1 i) (if i = L.1 then p else L.2.2.2.1 i) (if i = L.1 then A else L.2.2.2.2 i)
  by_cases q : i = L.1
  · rw [if_pos q, if_pos q, if_pos q, if_pos q, q]
    exact vy_rq_fr Q f1 ⟨by simp, by simp, by simp, by simp, fun k _ => by simp⟩
  · rw [if_neg q, if_neg q, if_neg q, if_neg q]
    have h0 := vy_rq_mono (r3 i (by omega)) hF hP
    refine vy_rq_fr (vy_rq_fr h0 f ⟨?_, ?_, ?_, ?_, fun k hk => ⟨?_, ?_⟩⟩) f1 ⟨by simp, by simp, by simp, by simp, fun k _ => by simp⟩ <;> (simp [vy_Sn, vy_Sq, vy_Sw, vy_Sr]; omega)
theorem vy_rr_fr {S : Nat → Nat → Prop} (B : vy_rr h ts cl sd op i V O Pd F) (f : vx_fr S h h1) (hs : ∀ k, ¬ S 627 k ∧ ¬ S 628 k ∧ ¬ S 629 k ∧ ¬ S 630 k ∧ ¬ S 642 k ∧ ¬ S 655 k ∧ ¬ S 656 k) (hp : ∀ k, ¬ S 631 k ∧ ¬ S 632 k ∧ ¬ S 633 k) (h25 : (¬ S 625 10 ∧ ¬ S 625 42) ∧ (¬ S 625 54 ∧ ¬ S 625 55 ∧ ¬ S 625 56) ∧ ¬ S 625 48 ∧ ¬ S 625 49 ∧ ¬ S 625 3 ∧ ¬ S 625 4) : vy_rr h1 ts cl sd op i V O Pd F := by
  obtain ⟨b1, b2, b3, b4, b5, b6, b7⟩ := B
  obtain ⟨⟨s1, s2⟩, s3, s4, s5, s6, s7⟩ := h25
  exact ⟨vy_rb_fr b1 f hs s1 s2, vy_ro_fr b2 f s3, (vx_fr_J f s4).trans b3, (vx_fr_J f s5).trans b4, ⟨b5.1, (vx_fr_J f (hp _).1).trans b5.2.1, b5.2.2.1, fun p hpp => by rw [vx_fr_K f (hp _).2.1, vx_fr_J f (hp _).2.2]; exact b5.2.2.2 p hpp⟩, ⟨(vx_fr_J f s6).trans b6.1, (vx_fr_J f s7).trans b6.2⟩, b7⟩
theorem vy_nt0 {p : Int} : (vy_nt F 2 p).1 ≠ 0 := by
  unfold vy_nt
  split
  · show (2 : Int) ≠ 0; omega
  · rename_i q; intro t; exact q (Or.inl t)
theorem vy_ar_tail {hd any : Bool} : ∀ (m i : Nat) (V : vy_V) (O : vy_O) (A : Nat → Int) {q : Nat × vy_V × vy_O × (Nat → Int) × Nat}, vy_ar ts hd any m i V O A = .inr q → m ≤ 4 → (∀ k, 4 - m ≤ k → A k = 0) → ∀ k, q.2.2.2.2 ≤ k → q.2.2.2.1 k = 0
  | 0, i, V, O, A, q, e, hm, hA => by cases e
  | m + 1, i, V, O, A, q, e, hm, hA => by
    have N : ∀ t k, 4 - m ≤ k → vy_set A (3 - m) t k = 0 := fun t k hk => (vy_set_lt (by omega)).trans (hA k (by omega))
    unfold vy_ar at e
    split at e
    · split at e
      · cases e
      split at e
      · cases e
      split at e
      · cases e
      split at e
      · cases e
      split at e
      · cases e
      split at e
      · exact vy_ar_tail m _ _ _ _ e (by omega) (N _)
      · cases e; exact N _
    · split at e
      · cases e
      split at e
      · exact vy_ar_tail m _ _ _ _ e (by omega) (N _)
      · cases e; exact N _
theorem vy_am_w {hd any : Bool} {q : Nat × vy_V × vy_O × (Nat → Int) × Nat × Int × vy_V × vy_F} (e : vy_am ts op hd any i V O Pd F = .inr q) : (1 ≤ q.2.2.2.2.1 ∧ q.2.2.2.2.1 ≤ 4) ∧ (∀ k, q.2.2.2.2.1 ≤ k → q.2.2.2.1 k = 0) ∧ (q.2.2.2.2.2.2.2.1 = 0 → F.1 = 0) ∧ (∀ p, p < Pd.1 → p < q.2.2.2.2.2.2.1.1 ∧ q.2.2.2.2.2.2.1.2.2 p = Pd.2.2 p) ∧ (q.2.2.2.2.2.2.2.1 = 0 → ∃ p : Nat, p < q.2.2.2.2.2.2.1.1 ∧ q.2.2.2.2.2.1 = p ∧ q.2.2.2.2.2.2.1.2.2 p = q.2.2.2.2.1) := by
  unfold vy_am at e
  split at e
  · cases e
  split at e
  · cases e
  split at e
  · cases e
  split at e
  · cases e
  rename_i u hu
  have a1 := vy_ar_many 4 (i + 2) V O (fun _ => 0) (by omega) hu
  have a2 := vy_ar_tail 4 (i + 2) V O (fun _ => 0) hu (by omega) (fun _ _ => rfl)
  split at e
  · cases e
  split at e
  · rename_i c1
    cases e
    refine ⟨a1, a2, fun t => ?_, fun p hp => ⟨hp, rfl⟩, fun t => ⟨_, c1, rfl, ?_⟩⟩
    · by_cases c : Pd.2.2 (vy_vx Pd (vy_v ts i)) = (u.2.2.2.2 : Int)
      · have t : (if Pd.2.2 (vy_vx Pd (vy_v ts i)) = (u.2.2.2.2 : Int) then F else vy_nt F 2 (vy_p ts i)).1 = 0 := t
        rw [if_pos c] at t; exact t
      · have t : (if Pd.2.2 (vy_vx Pd (vy_v ts i)) = (u.2.2.2.2 : Int) then F else vy_nt F 2 (vy_p ts i)).1 = 0 := t
        rw [if_neg c] at t; exact absurd t vy_nt0
    · by_cases c : Pd.2.2 (vy_vx Pd (vy_v ts i)) = (u.2.2.2.2 : Int)
      · exact c
      · have t : (if Pd.2.2 (vy_vx Pd (vy_v ts i)) = (u.2.2.2.2 : Int) then F else vy_nt F 2 (vy_p ts i)).1 = 0 := t
        rw [if_neg c] at t; exact absurd t vy_nt0
  split at e
  · cases e
    refine ⟨a1, a2, fun t => t, fun p hp => ⟨?_, ?_⟩, fun t => ⟨Pd.1, ?_, rfl, ?_⟩⟩
    · show p < Pd.1 + 1; omega
    · show (if p = Pd.1 then (u.2.2.2.2 : Int) else Pd.2.2 p) = Pd.2.2 p
      rw [if_neg (by omega)]
    · show Pd.1 < Pd.1 + 1; omega
    · show (if Pd.1 = Pd.1 then (u.2.2.2.2 : Int) else Pd.2.2 Pd.1) = u.2.2.2.2
      rw [if_pos rfl]
  · cases e
    exact ⟨a1, a2, fun t => absurd t vy_nt0, fun p hp => ⟨hp, rfl⟩, fun t => absurd t vy_nt0⟩
theorem vc_43 (hT : vx_T 625 672 h) (ok : vy_ok ts) (B : vy_rb h ts cl i V) : vx_CI d 43 [.ref 625] h (fun r h1 => h1 = h ∧ ((vy_rel (vy_k ts i) ∧ r = vy_sr (vy_k ts i) ∧ r ≠ 0) ∨ (¬ vy_rel (vy_k ts i) ∧ r = 0))) := by
  have hl := ok.2.1
  have hi := B.2.2.1
  obtain ⟨-, R⟩ := vy_kr B.1 hi
  refine vg_43 hT ?_
  rw [B.2.1, Int.toNat_natCast]
  revert R
  generalize vx_J h 627 i = kr
  generalize vx_J h 629 i = cr
  generalize vx_K h 630 i = vr
  generalize vy_k ts i = kd
  intro R
  obtain ⟨a0, a1, a2, a3, a4, a5, a6, a7, a8, -⟩ := R
  have b2 : kd = 2 → kr = 1 := fun t => (a2 t).1
  have b3 : kd = 3 → kr = 2 := fun t => (a3 t).1
  have b4 : kd = 4 → kr = 3 := fun t => (a4 t).1
  clear a2 a3 a4 hT B
  unfold vy_sr
  have hi6 : i < 602 := by omega
  clear hl hi ok
  have K : kr = 4 → (10 ≤ kd ∧ kd ≤ 13 ∧ cr = kd + 290) ∨ (14 ≤ kd ∧ cr = kd ∧ kd ≤ 126) := by
    intro t
    rcases (by omega : kd = 0 ∨ kd = 1 ∨ kd = 2 ∨ kd = 3 ∨ kd = 4 ∨ (5 ≤ kd ∧ kd ≤ 9) ∨ (10 ≤ kd ∧ kd ≤ 13) ∨ 14 ≤ kd) with u | u | u | u | u | u | u | u
    · have := a0 u; omega
    · have := a1 u; omega
    · have := b2 u; omega
    · have := b3 u; omega
    · have := b4 u; omega
    · have := a5 u; omega
    · exact Or.inl ⟨u.1, u.2, (a6 u).2⟩
    · exact Or.inr ⟨u, (a7 u).2.1, (a7 u).2.2⟩
  have K2 : kr ≠ 4 → kd < 10 := by
    intro t
    rcases (by omega : kd < 10 ∨ (10 ≤ kd ∧ kd ≤ 13) ∨ 14 ≤ kd) with u | u | u
    · exact u
    · exact absurd (a6 u).1 t
    · exact absurd (a7 u).1 t
  clear a0 a1 b2 b3 b4 a5 a6 a7 a8
  refine ⟨by omega, fun q4 => ⟨by omega, fun q => ⟨rfl, ?_⟩, fun q1 => ⟨fun q => ⟨rfl, ?_⟩, fun q2 => ⟨fun q => ⟨rfl, ?_⟩, fun q3 => ⟨fun q => ⟨rfl, ?_⟩, fun q5 => ⟨fun q => ⟨rfl, ?_⟩, fun q6 => ⟨fun q => ⟨rfl, ?_⟩, fun q => ⟨rfl, ?_⟩⟩⟩⟩⟩⟩⟩, fun q4 => ⟨rfl, ?_⟩⟩
  · have := K q4; split <;> omega
  · have := K q4; split <;> omega
  · have := K q4; split <;> omega
  · have := K q4; split <;> omega
  · have := K q4; split <;> omega
  · have := K q4; exact Or.inr ⟨by omega, rfl⟩
  · have := K q4; split <;> omega
  · have := K2 q4; exact Or.inr ⟨by omega, rfl⟩
theorem vc_44 {x1 x2 : Int} {l k0 : Nat} {t : Int} (hT : vx_T 625 672 h) (h1 : x1 = l) (h2 : x2 = k0) (hl : l < 366) (hk : k0 < 4) (ht : vy_tr t (vx_J h 625 46) (vx_K h 625 47)) : vx_CV d 44 [.ref 625, .int (vx_i x1), .int (vx_i x2)] h (fun h1 => vx_fr (fun a k => (a = 645 ∨ a = 646) ∧ k = 4 * l + k0) h h1 ∧ vy_tr t (vx_J h1 645 (4 * l + k0)) (vx_K h1 646 (4 * l + k0))) := by
  have e : (4 * x1 + x2).toNat = 4 * l + k0 := by omega
  refine vg_44 hT ⟨by omega, fun h2 e2 T2 => ⟨by omega, fun h4 e4 T4 => ?_⟩⟩
  rw [e] at e2 e4
  refine ⟨vx_fr_sK (vx_fr_sJ vx_fr_refl e2 ⟨Or.inl rfl, rfl⟩) e4 ⟨Or.inr rfl, rfl⟩, ?_⟩
  rw [e4, vx_J_sK, vx_K_eq (vx_rL_K _ _ _), e2, vx_J_eq (vx_rI_J _ _ _), vx_K_sJ]
  exact ht
end
