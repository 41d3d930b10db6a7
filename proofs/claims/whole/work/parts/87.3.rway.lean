/-! The search of the reference: all ways -/
abbrev vn_Wq (a k : Nat) : Prop := (a = 625 ∧ (k = 32 ∨ k = 68 ∨ k = 69 ∨ k = 75 ∨ k = 78)) ∨ a = 650 ∨ a = 651 ∨ a = 652 ∨ a = 654 ∨ a = 669 ∨ a = 670 ∨ a = 671
abbrev vn_Wy (a k : Nat) : Prop := vn_Wq a k ∨ a = 664 ∨ a = 665 ∨ a = 667 ∨ a = 668
abbrev vn_W5 (a k : Nat) : Prop := (a = 625 ∧ k = 69) ∨ a = 664 ∨ a = 665 ∨ a = 667 ∨ a = 668
/-- the variables are as they were -/
def vn_eq (h h1 : ve_H) : Prop := ∀ v, v < 9 → vx_J h1 664 v = vx_J h 664 v ∧ vx_K h1 665 v = vx_K h 665 v
/-- what is kept ahead of a level -/
def vn_kp (k : Nat) (h h1 : ve_H) : Prop := ∀ i, i < 9 * k → vx_J h1 667 i = vx_J h 667 i ∧ vx_K h1 668 i = vx_K h 668 i
/-- the clause, and its atoms -/
def vn_cx (h : ve_H) (c : Nat) (Pd : vy_V) (L : vy_L) (jn : Nat) (js : Nat → Nat) (mk : Int) : Prop := vn_lx h c Pd L ∧ vx_J h 625 70 = jn ∧ jn ≤ 3 ∧ (∀ i, i < jn → vx_J h 666 i = ((6 * c + js i : Nat) : Int) ∧ js i < L.1 ∧ L.2.1 (js i) = 14) ∧ vx_J h 625 66 = mk
section
variable {d c k jn : Nat} {h h1 h2 g : ve_H} {Pd : vy_V} {L : vy_L} {u w : Nat → Int} {js : Nat → Nat} {x mk : Int}
theorem vn_eq_refl : vn_eq h h := fun _ _ => ⟨rfl, rfl⟩
theorem vn_eq_trans (a : vn_eq h h1) (b : vn_eq h1 h2) : vn_eq h h2 := fun v hv => ⟨(b v hv).1.trans (a v hv).1, (b v hv).2.trans (a v hv).2⟩
theorem vn_eq_fr {S : Nat → Nat → Prop} (f : vx_fr S h h1) (hs : ∀ k, ¬ S 664 k ∧ ¬ S 665 k) : vn_eq h h1 := fun v _ => ⟨vx_fr_J f (hs v).1, vx_fr_K f (hs v).2⟩
theorem vn_eq_S (a : vn_eq h h1) (S : vn_S h u) : vn_S h1 u := fun v hv => by rw [(a v hv).1, (a v hv).2]; exact S v hv
theorem vn_eq_ag (a : vn_eq h h1) : vn_ag h1 u w ↔ vn_ag h u w := ⟨fun q v hv t => q v hv (by rw [(a v (by omega)).1]; exact t), fun q v hv t => q v hv (by rw [(a v (by omega)).1] at t; exact t)⟩
theorem vn_kp_refl : vn_kp k h h := fun _ _ => ⟨rfl, rfl⟩
theorem vn_kp_trans (a : vn_kp k h h1) (b : vn_kp k h1 h2) : vn_kp k h h2 := fun i hi => ⟨(b i hi).1.trans (a i hi).1, (b i hi).2.trans (a i hi).2⟩
theorem vn_kp_mono {k' : Nat} (a : vn_kp k h h1) (hk : k' ≤ k) : vn_kp k' h h1 := fun i hi => a i (by omega)
theorem vn_kp_fr {S : Nat → Nat → Prop} (f : vx_fr S h h1) (hs : ∀ k, ¬ S 667 k ∧ ¬ S 668 k) : vn_kp k h h1 := fun v _ => ⟨vx_fr_J f (hs v).1, vx_fr_K f (hs v).2⟩
theorem vn_cx_fr {S : Nat → Nat → Prop} (C : vn_cx h c Pd L jn js mk) (f : vx_fr S h h1) (hs : ∀ a k, S a k → vn_Wy a k) : vn_cx h1 c Pd L jn js mk :=
  ⟨vn_lx_fr C.1 f (fun a k q => by have := hs a k q; omega), (vx_fr_J f (fun q => absurd (hs _ _ q) (by omega))).trans C.2.1, C.2.2.1, fun i hi => ⟨(vx_fr_J f (fun q => absurd (hs _ _ q) (by omega))).trans (C.2.2.2.1 i hi).1, (C.2.2.2.1 i hi).2⟩, (vx_fr_J f (fun q => absurd (hs _ _ q) (by omega))).trans C.2.2.2.2⟩
theorem vc_77_2 (hk : k < 4) (hx : x = k) (h01 : ∀ v, v < 9 → vx_J h 664 v = 0 ∨ vx_J h 664 v = 1) :
    ∀ (m v : Nat) (g : ve_H) (z : Int), m = 9 - v → v ≤ 9 → z = v → vx_T 625 672 g → vx_fr (fun a i => (a = 667 ∨ a = 668) ∧ 9 * k ≤ i) h g → (∀ v', v' < v → vx_J g 667 (9 * k + v') = vx_J h 664 v' ∧ vx_K g 668 (9 * k + v') = vx_K h 665 v') → vx_W d 77 2 [some (.ref 625), some (.int (vx_i x)), some (.int (vx_i z))] [] g (vx_RV (fun h1 => vx_fr (fun a i => (a = 667 ∨ a = 668) ∧ 9 * k ≤ i) h h1 ∧ ∀ v', v' < 9 → vx_J h1 667 (9 * k + v') = vx_J h 664 v' ∧ vx_K h1 668 (9 * k + v') = vx_K h 665 v')) := by
  intro m
  induction m with
  | zero =>
    intro v g z hm hv hz hT F al
    exact vg_77_2 hT ⟨by omega, fun _ => ⟨F, fun v' h' => al v' (by omega)⟩, fun q => absurd q (by omega)⟩
  | succ m ih =>
    intro v g z hm hv hz hT F al
    refine vg_77_2 hT ⟨by omega, fun q => absurd q (by omega), fun _ => ?_⟩
    rw [show z.toNat = v by omega, show (9 * x + z).toNat = 9 * k + v by omega, vx_fr_J F (show ¬ (((664 : Nat) = 667 ∨ (664 : Nat) = 668) ∧ 9 * k ≤ v) by omega)]
    refine ⟨by omega, by omega, h01 v (by omega), ?_⟩
    rintro h6 e6 _
    refine ⟨by omega, by omega, ?_⟩
    rintro h9 e9 hT9
    have e65 : vx_K h6 665 v = vx_K h 665 v := by rw [e6, vx_K_sJ]; exact vx_fr_K F (by omega)
    rw [e65] at e9
    refine ih (v + 1) h9 (z + 1) (by omega) (by omega) (by omega) hT9 (vx_fr_sK (vx_fr_sJ F e6 (by omega)) e9 (by omega)) (fun v' h' => ?_)
    by_cases e : v' = v
    · rw [e]
      exact ⟨by rw [e9, vx_J_sK, e6, vx_J_eq (by have := h01 v (by omega); omega)], by rw [e9, vx_K_eq (vx_rL_K _ _ _)]⟩
    · have t := al v' (by omega)
      exact ⟨by rw [e9, vx_J_sK, e6, vx_J_ne (by omega)]; exact t.1, by rw [e9, vx_K_ne (by omega), e6, vx_K_sJ]; exact t.2⟩
theorem vc_77 (hT : vx_T 625 672 h) (hk : k < 4) (hx : x = k) (h01 : ∀ v, v < 9 → vx_J h 664 v = 0 ∨ vx_J h 664 v = 1) : vx_CV d 77 [.ref 625, .int (vx_i x)] h (fun h1 => vx_fr (fun a i => (a = 667 ∨ a = 668) ∧ 9 * k ≤ i) h h1 ∧ ∀ v', v' < 9 → vx_J h1 667 (9 * k + v') = vx_J h 664 v' ∧ vx_K h1 668 (9 * k + v') = vx_K h 665 v') :=
  vg_77 hT (vc_77_2 hk hx h01 9 0 h 0 rfl (by omega) rfl hT vx_fr_refl (fun v' h' => absurd h' (by omega)))
theorem vc_78_2 (hk : k < 4) (hx : x = k) (h01 : ∀ v, v < 9 → vx_J h 667 (9 * k + v) = 0 ∨ vx_J h 667 (9 * k + v) = 1) :
    ∀ (m v : Nat) (g : ve_H) (z : Int), m = 9 - v → v ≤ 9 → z = v → vx_T 625 672 g → vx_fr (fun a _ => a = 664 ∨ a = 665) h g → (∀ v', v' < v → vx_J g 664 v' = vx_J h 667 (9 * k + v') ∧ vx_K g 665 v' = vx_K h 668 (9 * k + v')) → vx_W d 78 2 [some (.ref 625), some (.int (vx_i x)), some (.int (vx_i z))] [] g (vx_RV (fun h1 => vx_fr (fun a _ => a = 664 ∨ a = 665) h h1 ∧ ∀ v', v' < 9 → vx_J h1 664 v' = vx_J h 667 (9 * k + v') ∧ vx_K h1 665 v' = vx_K h 668 (9 * k + v'))) := by
  intro m
  induction m with
  | zero =>
    intro v g z hm hv hz hT F al
    exact vg_78_2 hT ⟨by omega, fun _ => ⟨F, fun v' h' => al v' (by omega)⟩, fun q => absurd q (by omega)⟩
  | succ m ih =>
    intro v g z hm hv hz hT F al
    refine vg_78_2 hT ⟨by omega, fun q => absurd q (by omega), fun _ => ?_⟩
    rw [show z.toNat = v by omega, show (9 * x + z).toNat = 9 * k + v by omega, vx_fr_J F (show ¬ ((667 : Nat) = 664 ∨ (667 : Nat) = 665) by decide)]
    refine ⟨by omega, by omega, h01 v (by omega), ?_⟩
    rintro h6 e6 _
    refine ⟨by omega, by omega, ?_⟩
    rintro h9 e9 hT9
    have e65 : vx_K h6 668 (9 * k + v) = vx_K h 668 (9 * k + v) := by rw [e6, vx_K_sJ]; exact vx_fr_K F (by decide)
    rw [e65] at e9
    refine ih (v + 1) h9 (z + 1) (by omega) (by omega) (by omega) hT9 (vx_fr_sK (vx_fr_sJ F e6 (Or.inl rfl)) e9 (Or.inr rfl)) (fun v' h' => ?_)
    by_cases e : v' = v
    · rw [e]
      exact ⟨by rw [e9, vx_J_sK, e6, vx_J_eq (by have := h01 v (by omega); omega)], by rw [e9, vx_K_eq (vx_rL_K _ _ _)]⟩
    · have t := al v' (by omega)
      exact ⟨by rw [e9, vx_J_sK, e6, vx_J_ne (by omega)]; exact t.1, by rw [e9, vx_K_ne (by omega), e6, vx_K_sJ]; exact t.2⟩
theorem vc_78 (hT : vx_T 625 672 h) (hk : k < 4) (hx : x = k) (h01 : ∀ v, v < 9 → vx_J h 667 (9 * k + v) = 0 ∨ vx_J h 667 (9 * k + v) = 1) : vx_CV d 78 [.ref 625, .int (vx_i x)] h (fun h1 => vx_fr (fun a _ => a = 664 ∨ a = 665) h h1 ∧ ∀ v', v' < 9 → vx_J h1 664 v' = vx_J h 667 (9 * k + v') ∧ vx_K h1 665 v' = vx_K h 668 (9 * k + v')) :=
  vg_78 hT (vc_78_2 hk hx h01 9 0 h 0 rfl (by omega) rfl hT vx_fr_refl (fun v' h' => absurd h' (by omega)))
end
/-- what the search of the reference needs of what is done with each way -/
def vn_HY (c : Nat) (Pd : vy_V) (L : vy_L) (jn : Nat) (js : Nat → Nat) (mk : Int) (n lim : Nat) (rr : Nat → Nat → Int) (X Y : List (Nat → Int) → ve_H → Prop) (Z : List (Nat → Int) → (Nat → Int) → Prop) : Prop :=
  (∀ l h h1, X l h → vx_fr vn_W5 h h1 → X l h1) ∧ (∀ l h h1, Y l h → vx_fr vn_W5 h h1 → Y l h1) ∧ (∀ l l' u, Z l u → Z (l ++ l') u) ∧ (∀ l h, X l h → vn_db h Pd lim rr) ∧
  (∀ (d : Nat) l h u, vx_T 625 672 h → vn_cx h c Pd L jn js mk → X l h → vx_J h 625 68 = 0 → vn_S h u → (∀ v, v < n → vx_J h 664 v ≠ 0) → vx_CV (d + 4) 81 [.ref 625] h (fun h1 => vx_fr vn_Wq h h1 ∧ ((vx_J h1 625 68 = 0 ∧ X (l ++ [u]) h1) ∨ (vx_J h1 625 68 ≠ 0 ∧ Y (l ++ [u]) h1)))) ∧
  (∀ l v u, (∀ i, i < n → v i = u i) → Z (l ++ [v]) u)
/-- what is left of a way holds -/
def vn_sk (L : vy_L) (jn : Nat) (js : Nat → Nat) (lim : Nat) (rr : Nat → Nat → Int) (k : Nat) (w : Nat → Int) : Prop := (∀ i, k ≤ i → i < jn → vm_ex (vn_D lim rr) (L.2.2.1 (js i)) (L.2.2.2.2 (js i)) w) ∧ vn_nl L w ∧ vn_no lim rr L w
/-- how a way ends -/
def vn_po (L : vy_L) (jn : Nat) (js : Nat → Nat) (n lim : Nat) (rr : Nat → Nat → Int) (X Y : List (Nat → Int) → ve_H → Prop) (Z : List (Nat → Int) → (Nat → Int) → Prop) (k : Nat) (u : Nat → Int) (l : List (Nat → Int)) (h h1 : ve_H) : Prop :=
  vx_fr vn_Wy h h1 ∧ vn_eq h h1 ∧ vn_kp k h h1 ∧
  ((vx_J h1 625 68 = 0 ∧ ∃ l', (∀ w, w ∈ l' → vn_ag h u w ∧ vn_sk L jn js lim rr k w ∧ ∀ v, v < n → vz_va (w v)) ∧ (∀ w, vn_ag h u w → vn_sk L jn js lim rr k w → Z (l ++ l') w) ∧ ((∀ j, j < L.1 → L.2.1 j = 14 → ∀ k, k < 4 → L.2.2.2.2 j k ≠ 288230376151711744) → l'.Pairwise (vm_dt n)) ∧ X (l ++ l') h1) ∨
   (vx_J h1 625 68 ≠ 0 ∧ ∃ l', (∀ w, w ∈ l' → vn_ag h u w ∧ vn_sk L jn js lim rr k w ∧ ∀ v, v < n → vz_va (w v)) ∧ Y (l ++ l') h1))
/-- how the rows of an atom end, from row t on -/
def vn_lp (L : vy_L) (jn : Nat) (js : Nat → Nat) (n lim : Nat) (rr : Nat → Nat → Int) (X Y : List (Nat → Int) → ve_H → Prop) (Z : List (Nat → Int) → (Nat → Int) → Prop) (k : Nat) (u : Nat → Int) (t : Nat) (l : List (Nat → Int)) (g h1 : ve_H) : Prop :=
  vx_fr vn_Wy g h1 ∧ vn_eq g h1 ∧ vn_kp (k + 1) g h1 ∧
  ((vx_J g 625 68 = 0 ∧ vx_J h1 625 68 = 0 ∧ ∃ l', (∀ w, w ∈ l' → (vn_ag g u w ∧ vn_sk L jn js lim rr (k + 1) w ∧ ∀ v, v < n → vz_va (w v)) ∧ ∃ i, t ≤ i ∧ i < lim ∧ rr i 0 = L.2.2.1 (js k) ∧ vm_at w (L.2.2.2.2 (js k)) (rr i)) ∧ (∀ i, t ≤ i → i < lim → rr i 0 = L.2.2.1 (js k) → ∀ w, vn_ag g u w → vn_sk L jn js lim rr (k + 1) w → vm_at w (L.2.2.2.2 (js k)) (rr i) → Z (l ++ l') w) ∧ ((∀ j, j < L.1 → L.2.1 j = 14 → ∀ k, k < 4 → L.2.2.2.2 j k ≠ 288230376151711744) → l'.Pairwise (vm_dt n)) ∧ X (l ++ l') h1) ∨
   (vx_J h1 625 68 ≠ 0 ∧ ∃ l', (∀ w, w ∈ l' → (vn_ag g u w ∧ vn_sk L jn js lim rr (k + 1) w ∧ ∀ v, v < n → vz_va (w v)) ∧ ∃ i, t ≤ i ∧ i < lim ∧ rr i 0 = L.2.2.1 (js k) ∧ vm_at w (L.2.2.2.2 (js k)) (rr i)) ∧ Y (l ++ l') h1))
section
variable {d c n lim k jn t : Nat} {g g1 g2 h h1 : ve_H} {Pd : vy_V} {L : vy_L} {u u1 : Nat → Int} {rr : Nat → Nat → Int} {O1 x mk : Int} {js : Nat → Nat} {X Y : List (Nat → Int) → ve_H → Prop} {Z : List (Nat → Int) → (Nat → Int) → Prop} {l l1 : List (Nat → Int)}
/-- a row that gives nothing -/
theorem vn_lp_skip (F : vx_fr vn_W5 g g1) (E : vn_eq g g1) (K : vn_kp (k + 1) g g1) (no : rr t 0 = L.2.2.1 (js k) → ∀ w, vn_ag g u w → vn_sk L jn js lim rr (k + 1) w → ¬ vm_at w (L.2.2.2.2 (js k)) (rr t)) (P : vn_lp L jn js n lim rr X Y Z k u (t + 1) l g1 h1) : vn_lp L jn js n lim rr X Y Z k u t l g h1 := by
  obtain ⟨p1, p2, p3, p4⟩ := P
  have j : vx_J g1 625 68 = vx_J g 625 68 := vx_fr_J F (by omega)
  have ea : ∀ w, vn_ag g1 u w ↔ vn_ag g u w := fun w => vn_eq_ag E
  refine ⟨vx_fr_trans (vx_fr_mono F (fun a k q => by omega)) p1, vn_eq_trans E p2, vn_kp_trans K p3, ?_⟩
  rcases p4 with ⟨q0, q1, l', q2, q3, q4, q5⟩ | ⟨q1, l', q2, q3⟩
  · refine Or.inl ⟨j.symm.trans q0, q1, l', fun w hw => ?_, fun i i1 i2 i3 w w1 w2 w3 => ?_, q4, q5⟩
    · obtain ⟨⟨a1, a2⟩, i, i1, i2⟩ := q2 w hw
      exact ⟨⟨(ea w).mp a1, a2⟩, i, by omega, i2⟩
    · by_cases e : i = t
      · rw [e] at i3 w3; exact absurd w3 (no i3 w w1 w2)
      · exact q3 i (by omega) i2 i3 w ((ea w).mpr w1) w2 w3
  · refine Or.inr ⟨q1, l', fun w hw => ?_, q3⟩
    obtain ⟨⟨a1, a2⟩, i, i1, i2⟩ := q2 w hw
    exact ⟨⟨(ea w).mp a1, a2⟩, i, by omega, i2⟩
/-- a row that gives something, then the rest -/
theorem vn_lp_add (W : vz_wf O1 n L) (hk : js k < L.1) (k14 : L.2.1 (js k) = 14) (inj : ∀ i j, i < lim → j < lim → vr_eq 5 (rr i) (rr j) → i = j) (Zm : ∀ l l' u, Z l u → Z (l ++ l') u) (ht : t < lim) (e0 : rr t 0 = L.2.2.1 (js k)) (F : vx_fr vn_Wy g g2) (E : vn_eq g g2) (K : vn_kp (k + 1) g g2) (j0 : vx_J g 625 68 = 0)
    (snd : ∀ w, vn_ag g1 u1 w → vn_ag g u w ∧ vm_at w (L.2.2.2.2 (js k)) (rr t)) (cmp : ∀ w, vn_ag g u w → vm_at w (L.2.2.2.2 (js k)) (rr t) → vn_ag g1 u1 w)
    (q2 : ∀ w, w ∈ l1 → vn_ag g1 u1 w ∧ vn_sk L jn js lim rr (k + 1) w ∧ ∀ v, v < n → vz_va (w v)) (q3 : ∀ w, vn_ag g1 u1 w → vn_sk L jn js lim rr (k + 1) w → Z (l ++ l1) w) (q4 : (∀ j, j < L.1 → L.2.1 j = 14 → ∀ k, k < 4 → L.2.2.2.2 j k ≠ 288230376151711744) → l1.Pairwise (vm_dt n))
    (P : vn_lp L jn js n lim rr X Y Z k u (t + 1) (l ++ l1) g2 h1) : vn_lp L jn js n lim rr X Y Z k u t l g h1 := by
  obtain ⟨r1, r2, r3, r4⟩ := P
  have ea : ∀ w, vn_ag g2 u w ↔ vn_ag g u w := fun w => vn_eq_ag E
  refine ⟨vx_fr_trans F r1, vn_eq_trans E r2, vn_kp_trans K r3, ?_⟩
  have m1 : ∀ w, w ∈ l1 → (vn_ag g u w ∧ vn_sk L jn js lim rr (k + 1) w ∧ ∀ v, v < n → vz_va (w v)) ∧ ∃ i, t ≤ i ∧ i < lim ∧ rr i 0 = L.2.2.1 (js k) ∧ vm_at w (L.2.2.2.2 (js k)) (rr i) := fun w hw => by
    have a := q2 w hw
    have b := snd w a.1
    exact ⟨⟨b.1, a.2⟩, t, Nat.le_refl _, ht, e0, b.2⟩
  rcases r4 with ⟨u0', u1', l2, u2, u3, u4, u5⟩ | ⟨u1', l2, u2, u3⟩
  · have m2 : ∀ w, w ∈ l2 → (vn_ag g u w ∧ vn_sk L jn js lim rr (k + 1) w ∧ ∀ v, v < n → vz_va (w v)) ∧ ∃ i, t ≤ i ∧ i < lim ∧ rr i 0 = L.2.2.1 (js k) ∧ vm_at w (L.2.2.2.2 (js k)) (rr i) := fun w hw => by
      obtain ⟨⟨a1, a2⟩, i, i1, i2⟩ := u2 w hw
      exact ⟨⟨(ea w).mp a1, a2⟩, i, by omega, i2⟩
    refine Or.inl ⟨j0, u1', l1 ++ l2, fun w hw => ?_, fun i i1 i2 i3 w w1 w2 w3 => ?_, fun na => ?_, by rw [← List.append_assoc]; exact u5⟩
    · rcases List.mem_append.mp hw with a | a
      · exact m1 w a
      · exact m2 w a
    · rw [← List.append_assoc]
      by_cases e : i = t
      · rw [e] at w3; exact Zm _ _ w (q3 w (cmp w w1 w3) w2)
      · exact u3 i (by omega) i2 i3 w ((ea w).mpr w1) w2 w3
    · refine List.pairwise_append.mpr ⟨q4 na, u4 na, fun a ha b hb same => ?_⟩
      obtain ⟨_, i, i1, i2, i3, i4⟩ := u2 b hb
      have a4 := (snd a (q2 a ha).1).2
      have : t = i := inj t i ht i2 (fun y hy => by
        cases y with
        | zero => rw [e0, i3]
        | succ y =>
          have nay := na (js k) hk k14 y (by omega)
          rcases a4 y (by omega) with b1 | b1
          · exact absurd b1 nay
          rcases i4 y (by omega) with b2 | b2
          · exact absurd b2 nay
          rw [← b1, ← b2]
          rcases vz_v_or (L.2.2.2.2 (js k) y) with ⟨z, hz⟩ | hn
          · rw [vm_v_v hz, vm_v_v hz]; exact same z ((W (js k) hk).2.2.2.1 y (by omega) z hz)
          · rw [vm_v_c hn, vm_v_c hn])
      omega
  · refine Or.inr ⟨u1', l1 ++ l2, fun w hw => ?_, by rw [← List.append_assoc]; exact u3⟩
    rcases List.mem_append.mp hw with a | a
    · exact m1 w a
    · obtain ⟨⟨a1, a2⟩, i, i1, i2⟩ := u2 w a
      exact ⟨⟨(ea w).mp a1, a2⟩, i, by omega, i2⟩
/-- too many -/
theorem vn_lp_full (ht : t < lim) (e0 : rr t 0 = L.2.2.1 (js k)) (F : vx_fr vn_Wy g g2) (E : vn_eq g g2) (K : vn_kp (k + 1) g g2) (j2 : vx_J g2 625 68 ≠ 0)
    (snd : ∀ w, vn_ag g1 u1 w → vn_ag g u w ∧ vm_at w (L.2.2.2.2 (js k)) (rr t)) (q2 : ∀ w, w ∈ l1 → vn_ag g1 u1 w ∧ vn_sk L jn js lim rr (k + 1) w ∧ ∀ v, v < n → vz_va (w v)) (y : Y (l ++ l1) g2) : vn_lp L jn js n lim rr X Y Z k u t l g g2 :=
  ⟨F, E, K, Or.inr ⟨j2, l1, fun w hw => by
    have a := q2 w hw
    have b := snd w a.1
    exact ⟨⟨b.1, a.2⟩, t, Nat.le_refl _, ht, e0, b.2⟩, y⟩⟩
def vn_ST (X Y : List (Nat → Int) → ve_H → Prop) (l : List (Nat → Int)) (h : ve_H) : Prop := (vx_J h 625 68 = 0 ∧ X l h) ∨ (vx_J h 625 68 ≠ 0 ∧ Y l h)
theorem vn_ST_fr (H : vn_HY c Pd L jn js mk n lim rr X Y Z) (s : vn_ST X Y l g) (F : vx_fr vn_W5 g g1) : vn_ST X Y l g1 := by
  have e : vx_J g1 625 68 = vx_J g 625 68 := vx_fr_J F (by omega)
  rcases s with ⟨s1, s2⟩ | ⟨s1, s2⟩
  · exact Or.inl ⟨e.trans s1, H.1 l g g1 s2 F⟩
  · exact Or.inr ⟨by rw [e]; exact s1, H.2.1 l g g1 s2 F⟩
/-- the variables come back -/
theorem vn_back (hk : k < 3) (hx : x = k) (hT : vx_T 625 672 g1) (S : vn_S g u) (K : vn_kp (k + 1) g g1) (kp : ∀ v, v < 9 → vx_J g 667 (9 * k + v) = vx_J g 664 v ∧ vx_K g 668 (9 * k + v) = vx_K g 665 v) : vx_CV d 78 [.ref 625, .int (vx_i x)] g1 (fun h1 => vx_fr (fun a _ => a = 664 ∨ a = 665) g1 h1 ∧ vn_eq g h1) := by
  have e : ∀ v, v < 9 → vx_J g1 667 (9 * k + v) = vx_J g 664 v ∧ vx_K g1 668 (9 * k + v) = vx_K g 665 v := fun v hv => ⟨(K _ (by omega)).1.trans (kp v hv).1, (K _ (by omega)).2.trans (kp v hv).2⟩
  refine vx_CV_mono (vc_78 hT (by omega) hx (fun v hv => by rw [(e v hv).1]; exact (S v hv).1)) ?_
  rintro h1 ⟨F, q⟩
  exact ⟨F, fun v hv => ⟨(q v hv).1.trans (e v hv).1, (q v hv).2.trans (e v hv).2⟩⟩
theorem vn_loop (H : vn_HY c Pd L jn js mk n lim rr X Y Z) (W : vz_wf O1 n L) (wo : ∀ j, j < L.1 → L.2.1 j = 5 → vy_opn (L.2.2.1 j)) (inj : ∀ i j, i < lim → j < lim → vr_eq 5 (rr i) (rr j) → i = j) (hk : k < jn) (hx : x = k)
    (IH : ∀ g l u, vx_T 625 672 g → vn_cx g c Pd L jn js mk → X l g → vx_J g 625 68 = 0 → vn_S g u → (∀ i, i < k + 1 → ∀ v, vz_lv L (js i) v → vx_J g 664 v ≠ 0) → vx_CV (d + 4) 80 [.ref 625, .int (vx_i (x + 1))] g (vn_po L jn js n lim rr X Y Z (k + 1) u l g)) :
    ∀ (m t : Nat) (g : ve_H) (l : List (Nat → Int)) (z : Int), m = lim - t → t ≤ lim → z = t → vx_T 625 672 g → vn_cx g c Pd L jn js mk → vn_ST X Y l g → vx_J g 625 65 = lim → lim ≤ 201 → vn_S g u → (∀ i, i < k → ∀ v, vz_lv L (js i) v → vx_J g 664 v ≠ 0) → (∀ v, v < 9 → vx_J g 667 (9 * k + v) = vx_J g 664 v ∧ vx_K g 668 (9 * k + v) = vx_K g 665 v) →
    vx_W (d + 4 + 1) 80 32 [some (.ref 625), some (.int (vx_i x)), some (.int (vx_i z))] [] g (vx_RV (vn_lp L jn js n lim rr X Y Z k u t l g)) := by
  intro m
  induction m with
  | zero =>
    intro t g l z hm ht hz hT C s lm l201 S tk kp
    refine vg_80_32 hT ?_
    rw [lm]
    refine ⟨by omega, fun _ => ⟨vx_fr_refl, vn_eq_refl, vn_kp_refl, ?_⟩, fun q => absurd q (by omega)⟩
    rcases s with ⟨j0, s⟩ | ⟨j0, s⟩
    · exact Or.inl ⟨j0, j0, [], fun w hw => absurd hw List.not_mem_nil, fun i i1 i2 => absurd i2 (by omega), fun _ => List.Pairwise.nil, by rw [List.append_nil]; exact s⟩
    · exact Or.inr ⟨j0, [], fun w hw => absurd hw List.not_mem_nil, by rw [List.append_nil]; exact s⟩
  | succ m ih =>
    intro t g l z hm ht hz hT C s lm l201 S tk kp
    have ht' : t < lim := by omega
    have j3 := C.2.2.1
    have cj := C.2.2.2.1 k hk
    refine vg_80_32 hT ?_
    rw [lm]
    refine ⟨by omega, fun q => absurd q (by omega), fun _ => ⟨fun jq => ?_, fun jq => ⟨by omega, ?_⟩⟩⟩
    · rcases s with ⟨j0, _⟩ | ⟨j0, s⟩
      · exact absurd j0 jq
      · exact ⟨vx_fr_refl, vn_eq_refl, vn_kp_refl, Or.inr ⟨j0, [], fun w hw => absurd hw List.not_mem_nil, by rw [List.append_nil]; exact s⟩⟩
    have xl : X l g := by
      rcases s with ⟨_, s⟩ | ⟨j0, _⟩
      · exact s
      · exact absurd jq j0
    have B := H.2.2.2.1 l g xl
    obtain ⟨ro, ra⟩ := B.2.2 t ht'
    obtain ⟨hl, _, mm, lt, qa, _, _⟩ := vn_lq C.1 cj.2.1
    obtain ⟨q61, p, p1, p2, p3, p4⟩ := qa (Or.inl cj.2.2)
    have m4 := lt.2.1
    -- places behind the arguments
    have zero : rr t 0 = p → ∀ (w : Nat → Int) k', mm ≤ k' → k' < 4 → vm_m1 w (L.2.2.2.2 (js k) k') (rr t (k' + 1)) := by
      intro e0 w k' h1 h2
      obtain ⟨p', m', b1, b2, b3, b4, b5⟩ := ra
      have ep : p' = p := by omega
      rw [ep] at b3
      refine Or.inr ?_
      rw [lt.2.2.2 k' h1 h2, vm_v_c (fun i => vz_v0), b5 k' (by omega) h2]
    have full : ∀ (w : Nat → Int), rr t 0 = p → ((∀ j, j < mm → vm_m1 w (L.2.2.2.2 (js k) j) (rr t (j + 1))) ↔ vm_at w (L.2.2.2.2 (js k)) (rr t)) := fun w e0 => ⟨fun q k' hk' => by
      by_cases e : k' < mm
      · exact q k' e
      · exact zero e0 w k' (by omega) hk', fun q j hj => q j (by omega)⟩
    -- the next row
    have nx : ∀ g' l', vx_T 625 672 g' → vx_fr vn_Wy g g' → vn_eq g g' → vn_kp (k + 1) g g' → vn_ST X Y l' g' → vx_W (d + 4 + 1) 80 32 [some (.ref 625), some (.int (vx_i x)), some (.int (vx_i (z + 1)))] [] g' (vx_RV (vn_lp L jn js n lim rr X Y Z k u (t + 1) l' g')) := fun g' l' hT' F' E' K' s' => ih (t + 1) g' l' (z + 1) (by omega) (by omega) (by omega) hT' (vn_cx_fr C F' (fun a k q => q)) s' ((vx_fr_J F' (by omega)).trans lm) l201 (vn_eq_S E' S) (fun i hi v hv => by rw [(E' v (by obtain ⟨_, _, hv'⟩ := hv; have := hv'.1; omega)).1]; exact tk i hi v hv) (fun v hv => ⟨(K' _ (by omega)).1.trans ((kp v hv).1.trans (E' v hv).1.symm), (K' _ (by omega)).2.trans ((kp v hv).2.trans (E' v hv).2.symm)⟩)
    rw [show x.toNat = k by omega, cj.1]
    refine vx_CI_mono (vc_70 (d := d + 3) hT S lt q61 p4 (by omega) ro hz rfl) ?_
    rintro r5 h5 _ ⟨rfl, c5⟩ _
    refine ⟨fun q5 => ⟨by omega, ?_⟩, fun q5 => ?_⟩
    rotate_left
    · refine vx_mono (nx _ l hT vx_fr_refl vn_eq_refl vn_kp_refl s) ?_
      rintro ot h1 ⟨eo, P⟩
      refine ⟨eo, vn_lp_skip (g := h5) vx_fr_refl vn_eq_refl vn_kp_refl (fun e0 w w1 _ a => ?_) P⟩
      rcases c5 with ⟨a', _⟩ | ⟨_, a'⟩
      · omega
      · refine a' ⟨e0.trans p2, fun j hj => ?_⟩
        rcases a j (by omega) with b | b
        · exact Or.inl b
        · by_cases th : vn_th h5 (L.2.2.2.2 (js k) j)
          · exact Or.inr (Or.inr (by rw [vn_v_ag w1 th]; exact b))
          · exact Or.inr (Or.inl th)
    obtain ⟨e0, lk⟩ : rr t 0 = p ∧ ∀ j, j < mm → vn_m1 h5 u (L.2.2.2.2 (js k) j) (rr t (j + 1)) := by
      rcases c5 with ⟨_, a⟩ | ⟨a, _⟩
      · exact a
      · exact absurd a q5
    rw [cj.1]
    refine vx_CI_mono (vc_71 (d := d + 4) hT S lt q61 (by omega) ro hz rfl lk) ?_
    rintro r8 h8 _ ⟨F8, c8⟩ hT8
    have F8' : vx_fr vn_W5 h5 h8 := vx_fr_mono F8 (fun a k q => by omega)
    have K8 : vn_kp (k + 1) h5 h8 := vn_kp_fr F8 (fun k => ⟨by omega, by omega⟩)
    refine ⟨fun q8 => vx_CV_mono (vn_back (u := u) (g := h5) (by omega) hx hT8 S K8 kp) ?_, fun q8 => ?_⟩
    · rintro h10 ⟨F10, E10⟩ hT10
      have FF : vx_fr vn_W5 h5 h10 := vx_fr_trans F8' (vx_fr_mono F10 (fun a k q => by omega))
      have KK : vn_kp (k + 1) h5 h10 := vn_kp_trans K8 (vn_kp_fr F10 (fun k => ⟨by omega, by omega⟩))
      refine vx_mono (nx h10 l hT10 (vx_fr_mono FF (fun a k q => by omega)) E10 KK (vn_ST_fr H s FF)) ?_
      rintro ot h1 ⟨eo, P⟩
      refine ⟨eo, vn_lp_skip (g := h5) FF E10 KK (fun _ w w1 _ a => ?_) P⟩
      rcases c8 with ⟨a', _⟩ | ⟨_, a'⟩
      · omega
      · exact a' w w1 ((full w e0).mpr a)
    obtain ⟨u1, S8, ag8, hb8, mt8, un8⟩ : ∃ u1, vn_S h8 u1 ∧ vn_ag h5 u u1 ∧ (∀ v, vx_J h8 664 v ≠ 0 ↔ (vx_J h5 664 v ≠ 0 ∨ ∃ j, j < mm ∧ vz_v (L.2.2.2.2 (js k) j) v)) ∧ (∀ j, j < mm → vm_m1 u1 (L.2.2.2.2 (js k) j) (rr t (j + 1))) ∧ ∀ w, vn_ag h5 u w → (∀ j, j < mm → vm_m1 w (L.2.2.2.2 (js k) j) (rr t (j + 1))) → vn_ag h8 u1 w := by
      rcases c8 with ⟨_, a⟩ | ⟨a, _⟩
      · exact a
      · exact absurd a q8
    have snd8 : ∀ w, vn_ag h8 u1 w → vn_ag h5 u w ∧ vm_at w (L.2.2.2.2 (js k)) (rr t) := fun w hw => ⟨fun v hv q => (ag8 v hv q).trans (hw v hv ((hb8 v).mpr (Or.inl q))), (full w e0).mp (fun j hj => by
      rcases mt8 j hj with a | a
      · exact Or.inl a
      · exact Or.inr (by rw [← vn_v_ag hw (fun i hi => (hb8 i).mpr (Or.inr ⟨j, hj, hi⟩))]; exact a))⟩
    have cmp8 : ∀ w, vn_ag h5 u w → vm_at w (L.2.2.2.2 (js k)) (rr t) → vn_ag h8 u1 w := fun w w1 w2 => un8 w w1 ((full w e0).mpr w2)
    have C8 := vn_cx_fr C F8' (fun a k q => by omega)
    refine vx_CI_mono (vc_74 (d := d + 1) hT8 W wo S8 C8.1) ?_
    rintro r11 h11 _ ⟨F11, c11⟩ hT11
    have F511 : vx_fr vn_W5 h5 h11 := vx_fr_trans F8' (vx_fr_mono F11 (fun a k q => Or.inl q))
    have K11 : vn_kp (k + 1) h5 h11 := vn_kp_trans K8 (vn_kp_fr F11 (fun k => ⟨by omega, by omega⟩))
    have ag11 : ∀ w, vn_ag h11 u1 w ↔ vn_ag h8 u1 w := fun w => vn_ag_fr F11 (fun k => by omega)
    refine ⟨fun q11 => vx_CV_mono (vn_back (u := u) (g := h5) (by omega) hx hT11 S K11 kp) ?_, fun q11 => ?_⟩
    · rintro h13 ⟨F13, E13⟩ hT13
      have FF : vx_fr vn_W5 h5 h13 := vx_fr_trans F511 (vx_fr_mono F13 (fun a k q => by omega))
      have KK : vn_kp (k + 1) h5 h13 := vn_kp_trans K11 (vn_kp_fr F13 (fun k => ⟨by omega, by omega⟩))
      refine vx_mono (nx h13 l hT13 (vx_fr_mono FF (fun a k q => by omega)) E13 KK (vn_ST_fr H s FF)) ?_
      rintro ot h1 ⟨eo, P⟩
      refine ⟨eo, vn_lp_skip (g := h5) FF E13 KK (fun _ w w1 w2 a => ?_) P⟩
      rcases c11 with ⟨a', _⟩ | ⟨_, a'⟩
      · omega
      · exact a' w (cmp8 w w1 a) w2.2.1
    have S11 := vn_S_fr S8 F11 (fun k => ⟨by omega, by omega⟩)
    refine vx_CV_mono (IH h11 l u1 hT11 (vn_cx_fr C F511 (fun a k q => by omega)) (H.1 l h5 h11 xl F511) ((vx_fr_J F511 (by omega)).trans jq) S11 (fun i hi v hv => ?_)) ?_
    · rw [vx_fr_J F11 (by omega)]
      by_cases e : i = k
      · rw [e] at hv
        obtain ⟨k', k1, k2⟩ := hv
        refine (hb8 v).mpr (Or.inr ⟨k', ?_, k2⟩)
        by_cases km : k' < mm
        · exact km
        · rw [lt.2.2.2 k' (by omega) k1] at k2
          exact absurd k2 vz_v0
      · exact (hb8 v).mpr (Or.inl (tk i (by omega) v hv))
    rintro h14 ⟨P1, P2, P3, P4⟩ hT14
    have K14 : vn_kp (k + 1) h5 h14 := vn_kp_trans K11 P3
    refine vx_CV_mono (vn_back (u := u) (g := h5) (by omega) hx hT14 S K14 kp) ?_
    rintro h15 ⟨F15, E15⟩ hT15
    have FF : vx_fr vn_Wy h5 h15 := vx_fr_trans (vx_fr_mono F511 (fun a k q => by omega)) (vx_fr_trans P1 (vx_fr_mono F15 (fun a k q => by omega)))
    have KK : vn_kp (k + 1) h5 h15 := vn_kp_trans K14 (vn_kp_fr F15 (fun k => ⟨by omega, by omega⟩))
    have F15' : vx_fr vn_W5 h14 h15 := vx_fr_mono F15 (fun a k q => by omega)
    have snd : ∀ w, vn_ag h11 u1 w → vn_ag h5 u w ∧ vm_at w (L.2.2.2.2 (js k)) (rr t) := fun w hw => snd8 w ((ag11 w).mp hw)
    have cmp : ∀ w, vn_ag h5 u w → vm_at w (L.2.2.2.2 (js k)) (rr t) → vn_ag h11 u1 w := fun w w1 w2 => (ag11 w).mpr (cmp8 w w1 w2)
    rcases P4 with ⟨a1, l1, a2, a3, a4, a5⟩ | ⟨a1, l1, a2, a3⟩
    · refine vx_mono (nx h15 (l ++ l1) hT15 FF E15 KK (vn_ST_fr H (Or.inl ⟨a1, a5⟩) F15')) ?_
      rintro ot h1 ⟨eo, P⟩
      exact ⟨eo, vn_lp_add W cj.2.1 cj.2.2 inj H.2.2.1 ht' (e0.trans p2.symm) FF E15 KK jq snd cmp a2 a3 a4 P⟩
    · refine vx_mono (nx h15 (l ++ l1) hT15 FF E15 KK (vn_ST_fr H (Or.inr ⟨a1, a3⟩) F15')) ?_
      rintro ot h1 ⟨eo, P⟩
      refine ⟨eo, ?_⟩
      obtain ⟨b1, b2, b3, b4⟩ := P
      have ea : ∀ w, vn_ag h15 u w ↔ vn_ag h5 u w := fun w => vn_eq_ag E15
      have j15 : vx_J h15 625 68 ≠ 0 := by rw [vx_fr_J F15' (by omega)]; exact a1
      refine ⟨vx_fr_trans FF b1, vn_eq_trans E15 b2, vn_kp_trans KK b3, ?_⟩
      rcases b4 with ⟨b5, _⟩ | ⟨b5, l2, b6, b7⟩
      · exact absurd b5 j15
      · refine Or.inr ⟨b5, l1 ++ l2, fun w hw => ?_, by rw [← List.append_assoc]; exact b7⟩
        rcases List.mem_append.mp hw with c1 | c1
        · have c2 := a2 w c1
          have c3 := snd w c2.1
          exact ⟨⟨c3.1, c2.2⟩, t, Nat.le_refl _, ht', e0.trans p2.symm, c3.2⟩
        · obtain ⟨⟨c2, c3⟩, i, c4, c5⟩ := b6 w c1
          exact ⟨⟨(ea w).mp c2, c3⟩, i, by omega, c5⟩
/-- all ways from an atom on -/
theorem vn_way (H : vn_HY c Pd L jn js mk n lim rr X Y Z) (W : vz_wf O1 n L) (wo : ∀ j, j < L.1 → L.2.1 j = 5 → vy_opn (L.2.2.1 j)) (n8 : n ≤ 8) (bd : ∀ v, v < n → vz_bd L v) (inj : ∀ i j, i < lim → j < lim → vr_eq 5 (rr i) (rr j) → i = j) (alj : ∀ j, j < L.1 → L.2.1 j = 14 → ∃ i, i < jn ∧ js i = j) :
    ∀ (m k : Nat) (h : ve_H) (l : List (Nat → Int)) (u : Nat → Int) (x : Int), k + m = jn → x = k → vx_T 625 672 h → vn_cx h c Pd L jn js mk → X l h → vx_J h 625 68 = 0 → vn_S h u → (∀ i, i < k → ∀ v, vz_lv L (js i) v → vx_J h 664 v ≠ 0) → vx_CV (d + m + 4 + 1) 80 [.ref 625, .int (vx_i x)] h (vn_po L jn js n lim rr X Y Z k u l h)
  | 0, k, h, l, u, x, hm, hx, hT, C, xl, j0, S, tk => by
    have j3 := C.2.2.1
    refine vg_80 hT (vx_CV_mono (vc_77 (d := d + 0 + 4) hT (k := k) (by omega) hx (fun v hv => (S v hv).1)) ?_)
    rintro h1 ⟨F1, k1⟩ hT1
    have F1' : vx_fr vn_W5 h h1 := vx_fr_mono F1 (fun a i q => by omega)
    have C1 := vn_cx_fr C F1' (fun a k q => by omega)
    have X1 := H.1 l h h1 xl F1'
    have S1 := vn_S_fr S F1 (fun k => ⟨by omega, by omega⟩)
    have K1 : vn_kp k h h1 := fun i hi => ⟨vx_fr_J F1 (by omega), vx_fr_K F1 (by omega)⟩
    have E1 : vn_eq h h1 := vn_eq_fr F1 (fun k => ⟨by omega, by omega⟩)
    have kp1 : ∀ v, v < 9 → vx_J h1 667 (9 * k + v) = vx_J h1 664 v ∧ vx_K h1 668 (9 * k + v) = vx_K h1 665 v := fun v hv => ⟨(k1 v hv).1.trans (E1 v hv).1.symm, (k1 v hv).2.trans (E1 v hv).2.symm⟩
    have j1 : vx_J h1 625 68 = 0 := (vx_fr_J F1 (by omega)).trans j0
    rw [C1.2.1]
    refine ⟨by omega, fun q => absurd (show x = (jn : Int) by omega) q, fun _ => vx_CI_mono (vc_76 (d := d + 0) hT1 W wo n8 bd C1.1 (H.2.2.2.1 l h1 X1) S1 (fun j hj k14 v hv => ?_)) ?_⟩
    · obtain ⟨i, i1, i2⟩ := alj j hj k14
      rw [vx_fr_J F1 (by omega)]
      exact tk i (by omega) v (by rw [i2]; exact hv)
    rintro r4 h4 _ ⟨F4, c4⟩ hT4
    have F4' : vx_fr vn_W5 h1 h4 := vx_fr_mono F4 (fun a k q => by omega)
    have kp4 : ∀ v, v < 9 → vx_J h4 667 (9 * k + v) = vx_J h1 664 v ∧ vx_K h4 668 (9 * k + v) = vx_K h1 665 v := fun v hv => ⟨(vx_fr_J F4 (by omega)).trans (kp1 v hv).1, (vx_fr_K F4 (by omega)).trans (kp1 v hv).2⟩
    have agE : ∀ w, vn_ag h1 u w ↔ vn_ag h u w := fun w => vn_eq_ag E1
    -- the variables come back at the end
    have bk : ∀ g, vx_T 625 672 g → (∀ v, v < 9 → vx_J g 667 (9 * k + v) = vx_J h1 664 v ∧ vx_K g 668 (9 * k + v) = vx_K h1 665 v) → vx_CV (d + 0 + 4) 78 [.ref 625, .int (vx_i x)] g (fun h6 => vx_fr (fun a _ => a = 664 ∨ a = 665) g h6 ∧ vn_eq h h6) := by
      intro g hTg kg
      refine vx_CV_mono (vc_78 hTg (k := k) (by omega) hx (fun v hv => by rw [(kg v hv).1]; exact (S1 v hv).1)) ?_
      rintro h6 ⟨F6, q6⟩
      exact ⟨F6, fun v hv => ⟨(q6 v hv).1.trans ((kg v hv).1.trans (E1 v hv).1), (q6 v hv).2.trans ((kg v hv).2.trans (E1 v hv).2)⟩⟩
    refine ⟨fun q4 => vx_CV_mono (bk h4 hT4 kp4) ?_, fun q4 => ?_⟩
    · rintro h6 ⟨F6, E6⟩ _
      have FF : vx_fr vn_W5 h h6 := vx_fr_trans F1' (vx_fr_trans F4' (vx_fr_mono F6 (fun a k q => by omega)))
      refine ⟨vx_fr_mono FF (fun a k q => by omega), E6, vn_kp_trans K1 (vn_kp_trans (vn_kp_fr F4 (fun k => ⟨by omega, by omega⟩)) (vn_kp_fr F6 (fun k => ⟨by omega, by omega⟩))), Or.inl ⟨(vx_fr_J FF (by omega)).trans j0, [], fun w hw => absurd hw List.not_mem_nil, fun w w1 w2 => ?_, fun _ => List.Pairwise.nil, by rw [List.append_nil]; exact H.1 l h h6 xl FF⟩⟩
      rcases c4 with ⟨a, _⟩ | ⟨_, a⟩
      · omega
      · exact absurd w2.2 (a w ((agE w).mpr w1))
    · obtain ⟨u4, S4, ag4, al4, nl4, no4, un4⟩ : ∃ u1, vn_S h4 u1 ∧ vn_ag h1 u u1 ∧ (∀ v, v < n → vx_J h4 664 v ≠ 0) ∧ vn_nl L u1 ∧ vn_no lim rr L u1 ∧ ∀ w, vn_ag h1 u w → vn_nl L w → ∀ v, v < n → u1 v = w v := by
        rcases c4 with ⟨_, a⟩ | ⟨a, _⟩
        · exact a
        · exact absurd a q4
      have X4 := H.1 l h1 h4 X1 F4'
      refine vx_CV_mono (H.2.2.2.2.1 (d + 0) l h4 u4 hT4 (vn_cx_fr C1 F4' (fun a k q => by omega)) X4 ((vx_fr_J F4' (by omega)).trans j1) S4 al4) ?_
      rintro h7 ⟨F7, q7⟩ hT7
      refine vx_CV_mono (bk h7 hT7 (fun v hv => ⟨(vx_fr_J F7 (by omega)).trans (kp4 v hv).1, (vx_fr_K F7 (by omega)).trans (kp4 v hv).2⟩)) ?_
      rintro h8 ⟨F8, E8⟩ _
      have F8' : vx_fr vn_W5 h7 h8 := vx_fr_mono F8 (fun a k q => by omega)
      have FF : vx_fr vn_Wy h h8 := vx_fr_trans (vx_fr_mono F1' (fun a k q => by omega)) (vx_fr_trans (vx_fr_mono F4' (fun a k q => by omega)) (vx_fr_trans (vx_fr_mono F7 (fun a k q => Or.inl q)) (vx_fr_mono F8' (fun a k q => by omega))))
      have KK : vn_kp k h h8 := vn_kp_trans K1 (vn_kp_trans (vn_kp_fr F4 (fun k => ⟨by omega, by omega⟩)) (vn_kp_trans (vn_kp_fr F7 (fun k => ⟨by omega, by omega⟩)) (vn_kp_fr F8 (fun k => ⟨by omega, by omega⟩))))
      have j8 : vx_J h8 625 68 = vx_J h7 625 68 := vx_fr_J F8' (by omega)
      have snd : ∀ w, w ∈ [u4] → vn_ag h u w ∧ vn_sk L jn js lim rr k w ∧ ∀ v, v < n → vz_va (w v) := fun w hw => by
        rw [List.mem_singleton.mp hw]
        exact ⟨(agE u4).mp ag4, ⟨fun i h1 h2 => by omega, nl4, no4⟩, fun v hv => ⟨_, (S4 v (by omega)).2 (by omega) (al4 v hv)⟩⟩
      refine ⟨FF, E8, KK, ?_⟩
      rcases q7 with ⟨a1, a2⟩ | ⟨a1, a2⟩
      · exact Or.inl ⟨j8.trans a1, [u4], snd, fun w w1 w2 => H.2.2.2.2.2 l u4 w (fun i hi => un4 w ((agE w).mpr w1) w2.2.1 i hi), fun _ => List.pairwise_singleton _ _, H.1 _ h7 h8 a2 F8'⟩
      · exact Or.inr ⟨by rw [j8]; exact a1, [u4], snd, H.2.1 _ h7 h8 a2 F8'⟩
  | m + 1, k, h, l, u, x, hm, hx, hT, C, xl, j0, S, tk => by
    have j3 := C.2.2.1
    have hk : k < jn := by omega
    refine vg_80 hT (vx_CV_mono (vc_77 (d := d + (m + 1) + 4) hT (k := k) (by omega) hx (fun v hv => (S v hv).1)) ?_)
    rintro h1 ⟨F1, k1⟩ hT1
    have F1' : vx_fr vn_W5 h h1 := vx_fr_mono F1 (fun a i q => by omega)
    have C1 := vn_cx_fr C F1' (fun a k q => by omega)
    have X1 := H.1 l h h1 xl F1'
    have S1 := vn_S_fr S F1 (fun k => ⟨by omega, by omega⟩)
    have K1 : vn_kp k h h1 := fun i hi => ⟨vx_fr_J F1 (by omega), vx_fr_K F1 (by omega)⟩
    have E1 : vn_eq h h1 := vn_eq_fr F1 (fun k => ⟨by omega, by omega⟩)
    have kp1 : ∀ v, v < 9 → vx_J h1 667 (9 * k + v) = vx_J h1 664 v ∧ vx_K h1 668 (9 * k + v) = vx_K h1 665 v := fun v hv => ⟨(k1 v hv).1.trans (E1 v hv).1.symm, (k1 v hv).2.trans (E1 v hv).2.symm⟩
    have j1 : vx_J h1 625 68 = 0 := (vx_fr_J F1 (by omega)).trans j0
    have B1 := H.2.2.2.1 l h1 X1
    have agE : ∀ w, vn_ag h1 u w ↔ vn_ag h u w := fun w => vn_eq_ag E1
    rw [C1.2.1]
    refine ⟨by omega, fun _ => ?_, fun q => absurd q (by omega)⟩
    refine vx_mono (vn_loop (d := d + (m + 1)) (u := u) H W wo inj hk hx (fun g l u hT C xl j0 S tk => vn_way H W wo n8 bd inj alj m (k + 1) g l u (x + 1) (by omega) (by omega) hT C xl j0 S tk) lim 0 h1 l 0 (by omega) (by omega) rfl hT1 C1 (Or.inl ⟨j1, X1⟩) B1.1 B1.2.1 S1 (fun i hi v hv => by rw [(E1 v (by obtain ⟨_, _, hv'⟩ := hv; have := hv'.1; omega)).1]; exact tk i hi v hv) kp1) ?_
    rintro ot h2 ⟨eo, P1, P2, P3, P4⟩
    refine ⟨eo, vx_fr_trans (vx_fr_mono F1' (fun a k q => by omega)) P1, vn_eq_trans E1 P2, vn_kp_trans K1 (vn_kp_mono P3 (by omega)), ?_⟩
    have up : ∀ w, ((vn_ag h1 u w ∧ vn_sk L jn js lim rr (k + 1) w ∧ ∀ v, v < n → vz_va (w v)) ∧ ∃ i, 0 ≤ i ∧ i < lim ∧ rr i 0 = L.2.2.1 (js k) ∧ vm_at w (L.2.2.2.2 (js k)) (rr i)) → vn_ag h u w ∧ vn_sk L jn js lim rr k w ∧ ∀ v, v < n → vz_va (w v) := by
      rintro w ⟨⟨a1, a2, a3⟩, i, _, i1, i2, i3⟩
      refine ⟨(agE w).mp a1, ⟨fun i' b1 b2 => ?_, a2.2⟩, a3⟩
      by_cases e : i' = k
      · rw [e]; exact ⟨rr i, ⟨i, i1, fun _ _ => rfl⟩, i2, i3⟩
      · exact a2.1 i' (by omega) b2
    rcases P4 with ⟨_, a1, l', a2, a3, a4, a5⟩ | ⟨a1, l', a2, a3⟩
    · refine Or.inl ⟨a1, l', fun w hw => up w (a2 w hw), fun w w1 w2 => ?_, a4, a5⟩
      obtain ⟨f, ⟨i, i1, i2⟩, f2, f3⟩ := w2.1 k (Nat.le_refl _) hk
      exact a3 i (Nat.zero_le _) i1 ((i2 0 (by omega)).trans f2) w ((agE w).mpr w1) ⟨fun i' b1 b2 => w2.1 i' (by omega) b2, w2.2⟩ (vm_at_eq (vr_eq_symm i2) f3)
    · exact Or.inr ⟨a1, l', fun w hw => up w (a2 w hw), a3⟩
end
