/-! Reading clauses: what comes out -/
theorem vx_fr_sR {S : Nat → Nat → Prop} {h h1 h2 : ve_H} {a s : Nat} {x : Option Nat} (f : vx_fr S h h1) (e : h2 = ve_sR h1 a s x) (hs : S a s) : vx_fr S h h2 := by
  subst e
  refine vx_fr_trans f ⟨⟨rfl, rfl⟩, fun b k q => ⟨rfl, rfl, ?_⟩⟩
  rw [ve_R_sR, if_neg (fun t => q (by rw [t.1, t.2]; exact hs))]
/-- a rule: its head, the head's terms, its total, how many variables, its literals -/
abbrev vu_R : Type := Int × (Nat → Int) × vy_O × Nat × vy_L
def vu_V0 : vy_V := (0, fun _ => 0, fun _ => 0)
def vu_O0 : vy_O := (-1, 0, 0)
def vu_L0 : vy_L := (0, fun _ => 0, fun _ => 0, fun _ => 0, fun _ _ => 0)
def vu_row (p : Int) (A : Nat → Int) : Nat → Int
  | 0 => p
  | k + 1 => A k
abbrev vu_C : Type := Int ⊕ (Nat × vy_V × vy_F × ((Int × (Nat → Int)) ⊕ vu_R))
noncomputable def vu_cs (ts : vy_T) (n i : Nat) (Pd : vy_V) (F : vy_F) : vu_C :=
  match vy_am ts true true false i vu_V0 vu_O0 Pd F with
  | .inl p => .inl p
  | .inr q => if vy_k ts q.1 = 46 then
      (if vy_ff q.2.1 q.2.2.1 ≠ -1 then .inl (vy_ff q.2.1 q.2.2.1) else .inr (q.1 + 1, q.2.2.2.2.2.2.1, q.2.2.2.2.2.2.2, .inl (q.2.2.2.2.2.1, q.2.2.2.1)))
    else if vy_k ts q.1 ≠ 10 then .inl (vy_p ts q.1)
    else if 30 ≤ n then .inl (vy_p ts i)
    else match vy_bo ts true q.2.2.1 6 (q.1 + 1) q.2.1 q.2.2.2.2.2.2.1 q.2.2.2.2.2.2.2 vu_L0 0 with
      | .inl p => .inl p
      | .inr u => if vy_k ts u.1 ≠ 46 then .inl (vy_p ts u.1)
        else .inr (u.1 + 1, u.2.2.1, vz_un (vz_s u.2.2.2.2.1) u.2.1 u.2.2.2.1 u.2.1.1, .inr (q.2.2.2.2.2.1, q.2.2.2.1, q.2.2.1, u.2.1.1, u.2.2.2.2.1))
noncomputable def vu_fa (cnt : Nat) (rr : Nat → Nat → Int) (f : Nat → Int) : Nat × (Nat → Nat → Int) := @ite _ (∃ i, i < cnt ∧ vr_eq 5 (rr i) f) (Classical.propDecidable _) (cnt, rr) (cnt + 1, vr_ad rr cnt f)
theorem vu_fa_t {cnt : Nat} {rr : Nat → Nat → Int} {f : Nat → Int} (h : ∃ i, i < cnt ∧ vr_eq 5 (rr i) f) : vu_fa cnt rr f = (cnt, rr) := by unfold vu_fa; exact if_pos h
theorem vu_fa_f {cnt : Nat} {rr : Nat → Nat → Int} {f : Nat → Int} (h : ∀ i, i < cnt → ¬ vr_eq 5 (rr i) f) : vu_fa cnt rr f = (cnt + 1, vr_ad rr cnt f) := by unfold vu_fa; exact if_neg (fun ⟨i, a, b⟩ => h i a b)
def vu_go (R : vu_R) (i : Nat) : Prop := if R.1 = -1 then i < R.2.2.2.1 else ∃ k, k < 4 ∧ vz_v (R.2.1 k) i
def vz_pQ (o : Nat) (L : vy_L) (O1 G r : Int) (h1 : ve_H) : Prop := ∃ n σ b, n ≤ L.1 ∧ vz_st h1 o L n σ b ∧ r = b n ∧ (∀ j, j < L.1 → (∀ e, e < n → σ e ≠ j) → n < L.1 → L.2.1 j ≠ 14 ∧ ¬ vz_rd (L.2.1 j) (L.2.2.2.2 j) (fun i => vb (b n) i = true)) ∧ (O1 ≠ -1 → vx_J h1 o 15 = 7) ∧ (O1 = -1 → ∃ s : Nat, vx_J h1 o 15 = s ∧ s ≤ L.1 ∧ (s < L.1 → s ≤ n ∧ ∀ i, vb G i = true → vb (b s) i = true))
/-- a rule of the class -/
def vu_cr (h : ve_H) (o : Nat) (R : vu_R) : Prop := vx_J h o 0 = R.1 ∧ (∀ k, k < 4 → vx_K h (vx_r o 1) k = R.2.1 k) ∧ vy_co h o R.2.2.1 ∧ vx_J h o 5 = R.2.2.2.1 ∧ vy_cl h o R.2.2.2.2 ∧ ∃ G r, (0 ≤ G ∧ G < 256) ∧ (∀ i, vb G i = true ↔ vu_go R i) ∧ vz_pQ o R.2.2.2.2 R.2.2.1.1 G r h ∧ ∀ i, vb r i = true ↔ vz_bd R.2.2.2.2 i
/-- the class between two clauses -/
def vu_cS (h : ve_H) (ts : vy_T) (pi i : Nat) (Pd : vy_V) (F : vy_F) (n : Nat) (RR : Nat → vu_R) (cnt : Nat) (rr : Nat → Nat → Int) : Prop := vt_kc h 0 ts ∧ vx_J h 7 9 = i ∧ i < ts.length ∧ ve_R h 7 6 = some pi ∧ vx_J h 7 7 = 1 ∧ vy_cp h pi Pd ∧ vy_cf h F ∧ F.1 ≠ 1 ∧ vx_J h pi 7 = n ∧ n ≤ 30 ∧ (∀ r, r < n → vu_cr h (pi + 10 + 9 * r) (RR r)) ∧ vr_P (pi + 6) 5 cnt rr h ∧ 5 * cnt ≤ i
abbrev vu_Sd (pi n a k : Nat) : Prop := (a = 7 ∧ 8 ≤ k) ∨ (17 ≤ a ∧ a ≤ 20) ∨ (a = pi ∧ (k = 6 ∨ k = 7)) ∨ a = pi + 1 ∨ a = pi + 2 ∨ (pi + 10 + 9 * n ≤ a ∧ a < pi + 19 + 9 * n)
abbrev vu_Sc (pi n a k : Nat) : Prop := vu_Sd pi n a k ∨ (a = pi + 6 ∧ k = 4) ∨ (pi + 7 ≤ a ∧ a ≤ pi + 9)
theorem vx_rk_t : [39, 328].all (fun p => (List.range 31).all (fun j => (vx_ka (p + 10 + 9 * j)).beq 7)) = true := by decide +kernel
theorem vx_rk {pi n : Nat} (hp : vx_o 1 625 5 pi) (hn : n < 31) : vx_o 1 625 7 (pi + 10 + 9 * n) := by
  have t := vx_rk_t
  simp only [List.all_cons, List.all_nil, Bool.and_true, Bool.and_eq_true] at t
  rcases (vx_po hp).2.2.2.2.2.2 with rfl | rfl
  · exact ⟨by omega, Nat.eq_of_beq_eq_true (List.all_eq_true.mp t.1 n (List.mem_range.mpr hn))⟩
  · exact ⟨by omega, Nat.eq_of_beq_eq_true (List.all_eq_true.mp t.2 n (List.mem_range.mpr hn))⟩
theorem vu_fK {pi : Nat} (hp : vx_o 1 625 5 pi) : vr_K (pi + 6) 5 ∧ vx_r (pi + 6) 1 = pi + 9 ∧ vx_r (pi + 6) 2 = pi + 7 ∧ vx_r (pi + 6) 3 = pi + 8 := by
  rcases (vx_po hp).2.2.2.2.2.2 with rfl | rfl
  · have o : vx_o 1 625 6 45 := by decide +kernel
    have t := vx_to o
    exact ⟨⟨o, Or.inl rfl, by decide +kernel⟩, t.1, t.2.1, t.2.2.1⟩
  · have o : vx_o 1 625 6 334 := by decide +kernel
    have t := vx_to o
    exact ⟨⟨o, Or.inl rfl, by decide +kernel⟩, t.1, t.2.1, t.2.2.1⟩
section
variable {d i o pi n : Nat} {h h1 : ve_H} {ts : vy_T} {V Pd : vy_V} {O : vy_O} {F : vy_F} {L : vy_L} {op : Bool} {x y : Int}
theorem vu_cr_fr {R : vu_R} {S : Nat → Nat → Prop} (ho : vx_o 1 625 7 o) (C : vu_cr h o R) (f : vx_fr S h h1) (hs : ∀ a k, o ≤ a → a ≤ o + 8 → ¬ S a k) : vu_cr h1 o R := by
  obtain ⟨r1, r8, r9, r10, r11, r12, r13, r14, -⟩ := vx_ro ho
  have s0 : ∀ k, ¬ S o k := fun k => hs o k (by omega) (by omega)
  have s1 : ∀ k, ¬ S (vx_r o 1) k := fun k => hs _ k (by omega) (by omega)
  have s8 : ∀ k, ¬ S (vx_r o 8) k := fun k => hs _ k (by omega) (by omega)
  have s9 : ∀ k, ¬ S (vx_r o 9) k := fun k => hs _ k (by omega) (by omega)
  have s10 : ∀ k, ¬ S (vx_r o 10) k := fun k => hs _ k (by omega) (by omega)
  have s11 : ∀ k, ¬ S (vx_r o 11) k := fun k => hs _ k (by omega) (by omega)
  have s12 : ∀ k, ¬ S (vx_r o 12) k := fun k => hs _ k (by omega) (by omega)
  have s13 : ∀ k, ¬ S (vx_r o 13) k := fun k => hs _ k (by omega) (by omega)
  have s14 : ∀ k, ¬ S (vx_r o 14) k := fun k => hs _ k (by omega) (by omega)
  obtain ⟨c1, c2, c3, c4, c5, G, r, c6, c7, ⟨n, σ, b, d1, d2, d3, d4, d5, d6⟩, c9⟩ := C
  refine ⟨(vx_fr_J f (s0 _)).trans c1, fun k hk => (vx_fr_K f (s1 _)).trans (c2 k hk), vy_co_fr c3 f ⟨s0 _, s0 _, s0 _⟩, (vx_fr_J f (s0 _)).trans c4, vy_cl_fr c5 f ⟨s0 _, fun k => ⟨s8 k, s9 k, s10 k, s11 k⟩⟩, G, r, c6, c7, ⟨n, σ, b, d1, vz_st_fr d2 f (fun k => ⟨s12 k, s13 k, s14 k⟩), d3, d4, fun t => (vx_fr_J f (s0 _)).trans (d5 t), fun t => ?_⟩, c9⟩
  obtain ⟨s, e1, e2⟩ := d6 t
  exact ⟨s, (vx_fr_J f (s0 _)).trans e1, e2⟩
/-- what a clause's reading leaves, facts aside -/
theorem vu_keep {RR : Nat → vu_R} {cnt : Nat} {rr : Nat → Nat → Int} (hp : vx_o 1 625 5 pi) (hn : n ≤ 30) (f : vx_fr (vu_Sd pi n) h h1) (K : vt_kc h 0 ts) (h6 : ve_R h 7 6 = some pi) (h7 : vx_J h 7 7 = 1) (hr : ∀ r, r < n → vu_cr h (pi + 10 + 9 * r) (RR r)) (P : vr_P (pi + 6) 5 cnt rr h) : vt_kc h1 0 ts ∧ ve_R h1 7 6 = some pi ∧ vx_J h1 7 7 = 1 ∧ (∀ r, r < n → vu_cr h1 (pi + 10 + 9 * r) (RR r)) ∧ vr_P (pi + 6) 5 cnt rr h1 := by
  have q := (vx_po hp).2.2.2.2.2.2
  refine ⟨vy_kc_fr K f (fun k => ⟨?_, ?_, ?_⟩), (vx_fr_R f ?_).trans h6, (vx_fr_J f ?_).trans h7, fun r hr2 => vu_cr_fr (vx_rk hp (by omega)) (hr r hr2) f (fun a k h1 h2 => ?_), vr_P_fr P (vu_fK hp).1 f (fun b k hb => ?_)⟩
  · omega
  · omega
  · omega
  · omega
  · omega
  · omega
  · obtain ⟨-, e1, e2, e3⟩ := vu_fK hp
    omega
theorem vu_Sd_m (ho : o = pi + 10 + 9 * n) (hp : vx_o 1 625 5 pi) {a k : Nat} (q : vy_Sm o pi op a k) : vu_Sd pi n a k := by
  have p := vx_po hp
  have p0 := p.1
  have p1 := p.2.1
  clear p
  rcases q with q | q | ⟨-, q⟩ <;> omega
theorem vu_Sd_y (hn : n < 31) (ho : o = pi + 10 + 9 * n) (hp : vx_o 1 625 5 pi) {a k : Nat} (q : vy_Sy o pi op a k) : vu_Sd pi n a k := by
  have hO : vx_o 1 625 7 o := by rw [ho]; exact vx_rk hp hn
  have r := vx_ro hO
  rcases q with q | q | q | q
  · exact vu_Sd_m ho hp q
  · have r8 := r.2.1
    have r9 := r.2.2.1
    have r11 := r.2.2.2.2.1
    clear r
    omega
  · have r10 := r.2.2.2.1
    clear r
    omega
  · clear r
    omega
theorem vu_Sd_p (hn : n < 31) (ho : o = pi + 10 + 9 * n) (hp : vx_o 1 625 5 pi) {a k : Nat} (q : vz_Sp o a k) : vu_Sd pi n a k := by
  have hO : vx_o 1 625 7 o := by rw [ho]; exact vx_rk hp hn
  have r := vx_ro hO
  have r12 := r.2.2.2.2.2.1
  have r13 := r.2.2.2.2.2.2.1
  have r14 := r.2.2.2.2.2.2.2.1
  clear r
  omega
/-- places are places -/
theorem vy_p_r (ok : vy_ok ts) (j : Nat) : 0 ≤ vy_p ts j ∧ vy_p ts j ≤ 600 := by
  by_cases q : j < ts.length
  · exact ok.2.2.2.1 j q
  · unfold vy_p
    rw [List.getD_eq_getElem?_getD, List.getElem?_eq_none (by omega)]
    decide
def vz_pr (V : vy_V) (O : vy_O) : Prop := (∀ v, v < V.1 → 0 ≤ V.2.2 v ∧ V.2.2 v ≤ 600) ∧ (O.1 ≠ -1 → 0 ≤ O.2.2 ∧ O.2.2 ≤ 600)
theorem vy_tm_p {any : Bool} {q : Int × Nat × vy_V} (ok : vy_ok ts) (h : vz_pr V O) (e : vy_tm ts any i V = .inr q) : vz_pr q.2.2 O := by
  unfold vy_tm at e
  split at e
  · split at e
    · cases e; exact h
    · cases e
  split at e
  · cases e; exact h
  split at e
  · split at e
    · cases e; exact h
    split at e
    · cases e
      refine ⟨fun v hv => ?_, h.2⟩
      have hv : v < V.1 + 1 := hv
      show 0 ≤ (if v = V.1 then vy_p ts i else V.2.2 v) ∧ (if v = V.1 then vy_p ts i else V.2.2 v) ≤ 600
      by_cases q : v = V.1
      · rw [if_pos q]; exact vy_p_r ok i
      · rw [if_neg q]; exact h.1 v (by omega)
    · cases e
  split at e
  · cases e; exact h
  · cases e
theorem vy_ar_p {hd any : Bool} (ok : vy_ok ts) : ∀ (m i : Nat) (V : vy_V) (O : vy_O) (A : Nat → Int) {q : Nat × vy_V × vy_O × (Nat → Int) × Nat}, vy_ar ts hd any m i V O A = .inr q → vz_pr V O → vz_pr q.2.1 q.2.2.1
  | 0, i, V, O, A, q, e, h => by cases e
  | m + 1, i, V, O, A, q, e, h => by
    unfold vy_ar at e
    split at e
    · split at e
      · cases e
      split at e
      · cases e
      split at e
      · cases e
      split at e
      · cases e
      rename_i u hu
      have N : vz_pr u.2.2 (vy_k ts i, 3 - (m : Int), vy_p ts i) := ⟨(vy_tm_p ok h hu).1, fun _ => vy_p_r ok i⟩
      split at e
      · cases e
      split at e
      · exact vy_ar_p ok m _ _ _ _ e N
      · cases e; exact N
    · split at e
      · cases e
      rename_i u hu
      have N := vy_tm_p (O := O) ok h hu
      split at e
      · exact vy_ar_p ok m _ _ _ _ e N
      · cases e; exact N
theorem vy_am_p {hd any : Bool} {q : Nat × vy_V × vy_O × (Nat → Int) × Nat × Int × vy_V × vy_F} (ok : vy_ok ts) (h : vz_pr V O) (e : vy_am ts op hd any i V O Pd F = .inr q) : vz_pr q.2.1 q.2.2.1 := by
  unfold vy_am at e
  split at e
  · cases e
  split at e
  · cases e
  split at e
  · cases e
  split at e
  · cases e
  rename_i u hu
  have := vy_ar_p ok 4 (i + 2) V O (fun _ => 0) hu h
  split at e
  · cases e
  split at e
  · cases e; exact this
  split at e
  · cases e; exact this
  · cases e; exact this
theorem vz_pr0 : vz_pr vu_V0 vu_O0 := ⟨fun v hv => absurd (show v < 0 from hv) (by omega), fun t => absurd rfl t⟩
/-- how far a reading goes -/
theorem vy_tm_i {any : Bool} {q : Int × Nat × vy_V} (e : vy_tm ts any i V = .inr q) : i + 1 ≤ q.2.1 := by
  unfold vy_tm at e
  split at e
  · split at e
    · cases e; show i + 1 ≤ i + 2; omega
    · cases e
  split at e
  · cases e; exact Nat.le_refl _
  split at e
  · split at e
    · cases e; exact Nat.le_refl _
    split at e
    · cases e; exact Nat.le_refl _
    · cases e
  split at e
  · cases e; exact Nat.le_refl _
  · cases e
theorem vy_ar_i {hd any : Bool} : ∀ (m i : Nat) (V : vy_V) (O : vy_O) (A : Nat → Int) {q : Nat × vy_V × vy_O × (Nat → Int) × Nat}, vy_ar ts hd any m i V O A = .inr q → i + 1 ≤ q.1
  | 0, i, V, O, A, q, e => by cases e
  | m + 1, i, V, O, A, q, e => by
    unfold vy_ar at e
    split at e
    · split at e
      · cases e
      split at e
      · cases e
      split at e
      · cases e
      split at e
      · cases e
      rename_i u hu
      have := vy_tm_i hu
      split at e
      · cases e
      split at e
      · have := vy_ar_i m _ _ _ _ e; omega
      · cases e; show i + 1 ≤ u.2.1 + 1; omega
    · split at e
      · cases e
      rename_i u hu
      have := vy_tm_i hu
      split at e
      · have := vy_ar_i m _ _ _ _ e; omega
      · cases e; exact this
theorem vy_am_i {hd any : Bool} {q : Nat × vy_V × vy_O × (Nat → Int) × Nat × Int × vy_V × vy_F} (e : vy_am ts op hd any i V O Pd F = .inr q) : i + 4 ≤ q.1 := by
  unfold vy_am at e
  split at e
  · cases e
  split at e
  · cases e
  split at e
  · cases e
  split at e
  · cases e
  rename_i u hu
  have := vy_ar_i 4 (i + 2) V O (fun _ => 0) hu
  split at e
  · cases e
  split at e
  · cases e; show i + 4 ≤ u.1 + 1; omega
  split at e
  · cases e; show i + 4 ≤ u.1 + 1; omega
  · cases e; show i + 4 ≤ u.1 + 1; omega
theorem vy_li_i {q : Nat × vy_V × vy_V × vy_F × vy_L × Nat} {at_ : Nat} (e : vy_li ts op i V O Pd F L at_ = .inr q) : i + 1 ≤ q.1 := by
  unfold vy_li at e
  split at e
  · split at e
    · cases e
    rename_i u hu
    have := vy_am_i hu
    cases e; show i + 1 ≤ u.1; omega
  split at e
  · split at e
    · cases e
    split at e
    · cases e
    rename_i u hu
    have := vy_am_i hu
    cases e; show i + 1 ≤ u.1; omega
  · split at e
    · cases e
    rename_i u hu
    have : i + 1 ≤ u.1 := by
      unfold vy_re at hu
      split at hu
      · cases hu
      rename_i a ha
      have a1 := vy_tm_i ha
      split at hu
      · split at hu
        · cases hu
        rename_i b hb
        have b1 := vy_tm_i hb
        split at hu
        · split at hu
          · cases hu
          rename_i c hc
          have c1 := vy_tm_i hc
          cases hu; show i + 1 ≤ c.2.1; omega
        · cases hu
      split at hu
      · split at hu
        · cases hu
        rename_i b hb
        have b1 := vy_tm_i hb
        cases hu; show i + 1 ≤ b.2.1; omega
      · cases hu
    cases e; exact this
theorem vy_bo_i : ∀ (m i : Nat) (V Pd : vy_V) (F : vy_F) (L : vy_L) (at_ : Nat) {q : Nat × vy_V × vy_V × vy_F × vy_L × Nat}, vy_bo ts op O m i V Pd F L at_ = .inr q → i + 1 ≤ q.1
  | 0, i, V, Pd, F, L, at_, q, e => by cases e
  | m + 1, i, V, Pd, F, L, at_, q, e => by
    unfold vy_bo at e
    split at e
    · cases e
    rename_i u hu
    have := vy_li_i hu
    split at e
    · have := vy_bo_i m _ _ _ _ _ _ e; omega
    · cases e; exact this
end
