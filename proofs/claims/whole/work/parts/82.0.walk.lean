/-! The search: what it goes through: the class -/
/-- what is worked, and when -/
def vm_cx (h : ve_H) (o pi a : Nat) (R : vu_R) (σ : Nat → Nat) (b : Nat → Int) (st : Nat → Nat) (sN tn fr sd : Int) : Prop := vm_ru h o R ∧ vz_st h o R.2.2.2.2 R.2.2.2.2.1 σ b ∧ vx_J h o 15 = sd ∧ ve_R h 21 6 = some pi ∧ vx_o 1 625 5 pi ∧ vs_cs h pi st ∧ vx_J h 21 9 = sN ∧ vx_J h 21 10 = tn ∧ vx_J h 21 11 = fr ∧ ve_R h 21 8 = some a
/-- a body that can be worked -/
def vm_sl (O1 : Int) (n : Nat) (L : vy_L) : Prop := vz_wf O1 n L ∧ ∀ j, j < L.1 → (∀ k, vz_tk (L.2.2.2.2 j k)) ∧ (L.2.1 j = 5 → vy_opn (L.2.2.1 j)) ∧ ((L.2.1 j = 14 ∨ L.2.1 j = 15) → ∃ p : Nat, L.2.2.1 j = p ∧ p < 16)
/-- rows that stay -/
def vm_kp (h h1 : ve_H) : Prop := vx_J h 23 4 ≤ vx_J h1 23 4 ∧ ∀ i : Nat, (i : Int) < vx_J h 23 4 → (∀ k, k < 5 → vx_K h1 26 (i * 5 + k) = vx_K h 26 (i * 5 + k)) ∧ vx_J h1 27 i = vx_J h 27 i ∧ vx_J h1 28 i = vx_J h 28 i
def vm_db (h : ve_H) (L : vy_L) (σ : Nat → Nat) (st : Nat → Nat) (sN tn fr : Int) (PS : Nat → vm_S) (NS : vm_S) : Prop := (∀ e, e < L.1 → L.2.1 (σ e) ≠ 14 ∧ L.2.1 (σ e) ≠ 15) ∨ ∃ cnt rr cm, vm_M h cnt rr cm ∧ (∀ i, i < cnt → ∀ k, k < 4 → vz_va (rr i (k + 1))) ∧ ∀ e, e < L.1 → (L.2.1 (σ e) = 14 → (∀ i, i < cnt → rr i 0 = L.2.2.1 (σ e) → vm_it fr tn ((st (L.2.2.1 (σ e)).toNat : Int) = sN) e (cm i) → PS e (rr i)) ∧ ∀ f, PS e f → f 0 = L.2.2.1 (σ e) → ∃ i, i < cnt ∧ vr_eq 5 (rr i) f ∧ vm_it fr tn ((st (L.2.2.1 (σ e)).toNat : Int) = sN) e (cm i)) ∧ (L.2.1 (σ e) = 15 → (∀ i, i < cnt → rr i 0 = L.2.2.1 (σ e) → NS (rr i)) ∧ ∀ f, NS f → f 0 = L.2.2.1 (σ e) → ∃ i, i < cnt ∧ vr_eq 5 (rr i) f)
/-- the literals from a step on hold -/
def vm_so (L : vy_L) (σ : Nat → Nat) (PS : Nat → vm_S) (NS : vm_S) (e0 : Nat) (u : Nat → Int) : Prop := ∀ e, e0 ≤ e → e < L.1 → vm_li (PS e) NS (L.2.1 (σ e)) (L.2.2.1 (σ e)) (L.2.2.2.2 (σ e)) u
abbrev vm_dt (n : Nat) (u w : Nat → Int) : Prop := ¬ ∀ i, i < n → u i = w i
abbrev vm_Wt (a k : Nat) : Prop := vm_W a k ∧ a ≠ 31
section
variable {h h1 h2 : ve_H}
theorem vm_kp_refl : vm_kp h h := ⟨Int.le_refl _, fun _ _ => ⟨fun _ _ => rfl, rfl, rfl⟩⟩
theorem vm_kp_trans (a : vm_kp h h1) (b : vm_kp h1 h2) : vm_kp h h2 := ⟨Int.le_trans a.1 b.1, fun i hi => by
  have t := b.2 i (by have := a.1; omega)
  have s := a.2 i hi
  exact ⟨fun k hk => (t.1 k hk).trans (s.1 k hk), t.2.1.trans s.2.1, t.2.2.trans s.2.2⟩⟩
theorem vm_kp_fr {S : Nat → Nat → Prop} (f : vx_fr S h h1) (hs : ∀ a k, S a k → a < 23 ∨ 28 < a) : vm_kp h h1 := by
  have n : ∀ a k, 23 ≤ a → a ≤ 28 → ¬ S a k := fun a k a1 a2 q => absurd (hs a k q) (by omega)
  refine ⟨by rw [vx_fr_J f (n 23 4 (by omega) (by omega))]; exact Int.le_refl _, fun i _ => ⟨fun k _ => vx_fr_K f (n 26 _ (by omega) (by omega)), vx_fr_J f (n 27 i (by omega) (by omega)), vx_fr_J f (n 28 i (by omega) (by omega))⟩⟩
theorem vm_cx_fr {o pi a : Nat} {R : vu_R} {σ : Nat → Nat} {b : Nat → Int} {st : Nat → Nat} {sN tn fr sd : Int} {S : Nat → Nat → Prop} (C : vm_cx h o pi a R σ b st sN tn fr sd) (f : vx_fr S h h1) (hs : ∀ a k, S a k → vm_W a k) : vm_cx h1 o pi a R σ b st sN tn fr sd := by
  obtain ⟨c1, c2, c3, c4, c5, c6, c7, c8, c9, c10⟩ := C
  have t := vm_o c1.1.2.1
  have n : ∀ a k, o ≤ a → a ≤ o + 8 → ¬ S a k := fun a k a1 a2 q => vm_oW c1.1.2.1 a1 a2 (hs a k q)
  have p := (vx_po c5).2.2.2.2.2.2
  refine ⟨vm_ru_fr c1 f hs, vz_st_fr c2 f (fun k => ⟨n _ k (by omega) (by omega), n _ k (by omega) (by omega), n _ k (by omega) (by omega)⟩), (vx_fr_J f (n o 15 (by omega) (by omega))).trans c3, (vx_fr_R f (fun q => absurd (hs _ _ q) (by omega))).trans c4, c5, fun q hq => (vx_fr_J f (fun q => absurd (hs _ _ q) (by omega))).trans (c6 q hq), (vx_fr_J f (fun q => absurd (hs _ _ q) (by omega))).trans c7, (vx_fr_J f (fun q => absurd (hs _ _ q) (by omega))).trans c8, (vx_fr_J f (fun q => absurd (hs _ _ q) (by omega))).trans c9, (vx_fr_R f (fun q => absurd (hs _ _ q) (by omega))).trans c10⟩
end
/-- what a search needs of what is done with each way -/
def vm_HY (o pi a : Nat) (R : vu_R) (σ : Nat → Nat) (b : Nat → Int) (st : Nat → Nat) (sN tn fr sd : Int) (PS : Nat → vm_S) (NS : vm_S) (X Y : List (Nat → Int) → ve_H → Prop) (Z : List (Nat → Int) → (Nat → Int) → Prop) : Prop :=
  (∀ l h h1, X l h → vx_fr vm_W3 h h1 → X l h1) ∧ (∀ l h h1, Y l h → vx_fr vm_W3 h h1 → Y l h1) ∧ (∀ l l' u, Z l u → Z (l ++ l') u) ∧ (∀ l h, X l h → vm_db h R.2.2.2.2 σ st sN tn fr PS NS) ∧
  (∀ (d : Nat) l h, vx_T 1 625 h → vm_cx h o pi a R σ b st sN tn fr sd → X l h → vx_J h 21 12 = 0 → (∀ v, v < R.2.2.2.1 → vz_va (vm_hv h v)) → vx_CV (d + 3) 112 [.ref 21] h (fun h1 => vx_fr vm_Wt h h1 ∧ vm_kp h h1 ∧ ((vx_J h1 21 12 = 0 ∧ X (l ++ [vm_hv h]) h1) ∨ (vx_J h1 21 12 ≠ 0 ∧ Y (l ++ [vm_hv h]) h1)))) ∧
  (∀ (d e : Nat) l h, vx_T 1 625 h → vm_cx h o pi a R σ b st sN tn fr sd → X l h → vx_J h 21 12 = 0 → sd ≤ e → e ≤ R.2.2.2.2.1 → vx_CI (d + 2) 110 [.ref 21] h (fun r h1 => vx_fr vm_Wt h h1 ∧ vm_kp h h1 ∧ X l h1 ∧ vx_J h1 21 12 = 0 ∧ (r ≠ 0 → ∀ u, vm_ag (b e) (vm_hv h) u → Z l u))) ∧
  (∀ l v u, (∀ i, i < R.2.2.2.1 → v i = u i) → Z (l ++ [v]) u)
/-- how a search ends -/
def vm_po (R : vu_R) (σ : Nat → Nat) (b : Nat → Int) (PS : Nat → vm_S) (NS : vm_S) (X Y : List (Nat → Int) → ve_H → Prop) (Z : List (Nat → Int) → (Nat → Int) → Prop) (e : Nat) (l : List (Nat → Int)) (h h1 : ve_H) : Prop :=
  vx_fr vm_W h h1 ∧ vm_ag (b e) (vm_hv h) (vm_hv h1) ∧ vm_kp h h1 ∧
  ((vx_J h 21 12 = 0 ∧ vx_J h1 21 12 = 0 ∧ ∃ l', (∀ u, u ∈ l' → vm_ag (b e) (vm_hv h) u ∧ vm_so R.2.2.2.2 σ PS NS e u ∧ ∀ v, v < R.2.2.2.1 → vz_va (u v)) ∧ (∀ u, vm_ag (b e) (vm_hv h) u → vm_so R.2.2.2.2 σ PS NS e u → Z (l ++ l') u) ∧ ((∀ j, j < R.2.2.2.2.1 → R.2.2.2.2.2.1 j = 14 → ∀ k, k < 4 → R.2.2.2.2.2.2.2.2 j k ≠ 288230376151711744) → l'.Pairwise (vm_dt R.2.2.2.1)) ∧ X (l ++ l') h1) ∨
   (vx_J h1 21 12 ≠ 0 ∧ ∃ l', (∀ u, u ∈ l' → vm_ag (b e) (vm_hv h) u ∧ vm_so R.2.2.2.2 σ PS NS e u ∧ ∀ v, v < R.2.2.2.1 → vz_va (u v)) ∧ Y (l ++ l') h1))
section
variable {d o pi a : Nat} {R : vu_R} {σ : Nat → Nat} {b : Nat → Int} {st : Nat → Nat} {sN tn fr sd : Int} {PS : Nat → vm_S} {NS : vm_S} {X Y : List (Nat → Int) → ve_H → Prop} {Z : List (Nat → Int) → (Nat → Int) → Prop} {h h1 g : ve_H} {l : List (Nat → Int)} {e : Nat} {x : Int}
/-- nothing is found -/
theorem vm_po_no (F : vx_fr vm_W h h1) (A : vm_ag (b e) (vm_hv h) (vm_hv h1)) (K : vm_kp h h1) (j0 : vx_J h 21 12 = 0) (j1 : vx_J h1 21 12 = 0) (x : X l h1) (no : ∀ u, vm_ag (b e) (vm_hv h) u → vm_so R.2.2.2.2 σ PS NS e u → Z l u) : vm_po R σ b PS NS X Y Z e l h h1 :=
  ⟨F, A, K, Or.inl ⟨j0, j1, [], fun u hu => absurd hu List.not_mem_nil, fun u h1 h2 => by rw [List.append_nil]; exact no u h1 h2, fun _ => List.Pairwise.nil, by rw [List.append_nil]; exact x⟩⟩
/-- a step ahead that changes no variable -/
theorem vm_po_t (F : vx_fr vm_Wt h g) (K : vm_kp h g) (j0 : vx_J h 21 12 = 0) (P : vm_po R σ b PS NS X Y Z e l g h1) : vm_po R σ b PS NS X Y Z e l h h1 := by
  have hv : vm_hv g = vm_hv h := vm_hv_fr F (fun k q => q.2 rfl)
  obtain ⟨p1, p2, p3, p4⟩ := P
  rw [hv] at p2 p4
  refine ⟨vx_fr_trans (vx_fr_mono F (fun a k q => q.1)) p1, p2, vm_kp_trans K p3, ?_⟩
  rcases p4 with ⟨_, q⟩ | q
  · exact Or.inl ⟨j0, q⟩
  · exact Or.inr q
/-- what the plan's masks have -/
theorem vm_b1 (C : vm_cx h o pi a R σ b st sN tn fr sd) (he : e < R.2.2.2.2.1) : ∀ i, vb (b (e + 1)) i = true ↔ (vb (b e) i = true ∨ vz_lv R.2.2.2.2 (σ e) i) := by
  intro i
  have s := C.2.1.2.1
  rw [(s (e + 1) (by omega)).2 i, (s e (by omega)).2 i]
  constructor
  · rintro ⟨e', q1, q2⟩
    by_cases q : e' = e
    · rw [q] at q2; exact Or.inr q2
    · exact Or.inl ⟨e', by omega, q2⟩
  · rintro (⟨e', q1, q2⟩ | q)
    · exact ⟨e', by omega, q2⟩
    · exact ⟨e, by omega, q⟩
theorem vm_lw_at (C : vm_cx h o pi a R σ b st sN tn fr sd) (S : vm_sl R.2.2.1.1 R.2.2.2.1 R.2.2.2.2) (he : e < R.2.2.2.2.1) : vm_lw R.2.2.1.1 R.2.2.2.1 R.2.2.2.2 (σ e) (b e) (b (e + 1)) := by
  have c := C.2.1.1 e he
  exact ⟨c.1, S.1 _ c.1, (S.2 _ c.1).1, (S.2 _ c.1).2.1, (C.2.1.2.1 e (by omega)).1, c.2.2.2.1, vm_b1 C he⟩
/-- the literal of a step, behind it -/
theorem vm_po_s (C : vm_cx h o pi a R σ b st sN tn fr sd) (he : e < R.2.2.2.2.1) (F : vx_fr vm_W3 h g) (j0 : vx_J h 21 12 = 0) (s : vm_sp (b e) (b (e + 1)) (fun u => vm_li (PS e) NS (R.2.2.2.2.2.1 (σ e)) (R.2.2.2.2.2.2.1 (σ e)) (R.2.2.2.2.2.2.2.2 (σ e)) u) (vm_hv h) 1 (vm_hv g)) (P : vm_po R σ b PS NS X Y Z (e + 1) l g h1) : vm_po R σ b PS NS X Y Z e l h h1 := by
  obtain ⟨p1, p2, p3, p4⟩ := P
  obtain ⟨s1, s2⟩ := s
  have hb : ∀ i, vb (b e) i = true → vb (b (e + 1)) i = true := fun i hi => (vm_b1 C he i).mpr (Or.inl hi)
  have s3 : vm_li (PS e) NS (R.2.2.2.2.2.1 (σ e)) (R.2.2.2.2.2.2.1 (σ e)) (R.2.2.2.2.2.2.2.2 (σ e)) (vm_hv g) ∧ ∀ u, vm_ag (b e) (vm_hv h) u → vm_li (PS e) NS (R.2.2.2.2.2.1 (σ e)) (R.2.2.2.2.2.2.1 (σ e)) (R.2.2.2.2.2.2.2.2 (σ e)) u → vm_ag (b (e + 1)) (vm_hv g) u := by
    rcases s2 with ⟨_, q1, _, q2⟩ | ⟨q, _⟩
    · exact ⟨q1, q2⟩
    · exact absurd q (by decide)
  have up : ∀ u, vm_ag (b (e + 1)) (vm_hv g) u ∧ vm_so R.2.2.2.2 σ PS NS (e + 1) u → vm_ag (b e) (vm_hv h) u ∧ vm_so R.2.2.2.2 σ PS NS e u := by
    rintro u ⟨u1, u2⟩
    refine ⟨vm_ag_trans s1 (vm_ag_sub u1 hb), fun e' q1 q2 => ?_⟩
    by_cases q : e' = e
    · rw [q]
      exact vm_li_ag u1 (fun k hk i hi => (vm_b1 C he i).mpr (Or.inr ⟨k, hk, hi⟩)) s3.1
    · exact u2 e' (by omega) q2
  refine ⟨vx_fr_trans (vx_fr_mono F (fun a k q => vm_W3_W q)) p1, vm_ag_trans s1 (vm_ag_sub p2 hb), vm_kp_trans (vm_kp_fr F (fun a k q => by omega)) p3, ?_⟩
  rcases p4 with ⟨_, q1, l', q2, q3, q4, q5⟩ | ⟨q1, l', q2, q3⟩
  · refine Or.inl ⟨j0, q1, l', fun u hu => ?_, fun u u1 u2 => q3 u (s3.2 u u1 (u2 e (Nat.le_refl _) he)) (fun e' t1 t2 => u2 e' (by omega) t2), q4, q5⟩
    have t := q2 u hu
    have t2 := up u ⟨t.1, t.2.1⟩
    exact ⟨t2.1, t2.2, t.2.2⟩
  · refine Or.inr ⟨q1, l', fun u hu => ?_, q3⟩
    have t := q2 u hu
    have t2 := up u ⟨t.1, t.2.1⟩
    exact ⟨t2.1, t2.2, t.2.2⟩
end
