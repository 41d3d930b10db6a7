/-! The search over the rows of an atom: the class -/
def vm_ST (X Y : List (Nat → Int) → ve_H → Prop) (l : List (Nat → Int)) (h : ve_H) : Prop := (vx_J h 21 12 = 0 ∧ X l h) ∨ (vx_J h 21 12 ≠ 0 ∧ Y l h)
def vm_lp (R : vu_R) (σ : Nat → Nat) (b : Nat → Int) (PS : Nat → vm_S) (NS : vm_S) (X Y : List (Nat → Int) → ve_H → Prop) (Z : List (Nat → Int) → (Nat → Int) → Prop) (e : Nat) (it : Nat → Prop) (rr : Nat → Nat → Int) (v : Nat → Int) (ch : List Nat) (l : List (Nat → Int)) (g h1 : ve_H) : Prop :=
  vx_fr vm_W g h1 ∧ vm_ag (b e) v (vm_hv h1) ∧ vm_kp g h1 ∧
  ((vx_J g 21 12 = 0 ∧ vx_J h1 21 12 = 0 ∧ ∃ l', (∀ u, u ∈ l' → (vm_ag (b e) v u ∧ vm_so R.2.2.2.2 σ PS NS (e + 1) u ∧ ∀ v, v < R.2.2.2.1 → vz_va (u v)) ∧ ∃ i, i ∈ ch ∧ it i ∧ vm_at u (R.2.2.2.2.2.2.2.2 (σ e)) (rr i)) ∧ (∀ i, i ∈ ch → it i → ∀ u, vm_ag (b e) v u → vm_so R.2.2.2.2 σ PS NS (e + 1) u → vm_at u (R.2.2.2.2.2.2.2.2 (σ e)) (rr i) → Z (l ++ l') u) ∧ ((∀ j, j < R.2.2.2.2.1 → R.2.2.2.2.2.1 j = 14 → ∀ k, k < 4 → R.2.2.2.2.2.2.2.2 j k ≠ 288230376151711744) → l'.Pairwise (vm_dt R.2.2.2.1)) ∧ X (l ++ l') h1) ∨
   (vx_J h1 21 12 ≠ 0 ∧ ∃ l', (∀ u, u ∈ l' → (vm_ag (b e) v u ∧ vm_so R.2.2.2.2 σ PS NS (e + 1) u ∧ ∀ v, v < R.2.2.2.1 → vz_va (u v)) ∧ ∃ i, i ∈ ch ∧ it i ∧ vm_at u (R.2.2.2.2.2.2.2.2 (σ e)) (rr i)) ∧ Y (l ++ l') h1))
section
variable {d o pi a : Nat} {R : vu_R} {σ : Nat → Nat} {b : Nat → Int} {st : Nat → Nat} {sN tn fr sd : Int} {PS : Nat → vm_S} {NS : vm_S} {X Y : List (Nat → Int) → ve_H → Prop} {Z : List (Nat → Int) → (Nat → Int) → Prop} {h h1 g g1 : ve_H} {l : List (Nat → Int)} {e : Nat} {x : Int} {it : Nat → Prop} {rr : Nat → Nat → Int} {v : Nat → Int} {ch : List Nat}
theorem vm_ST_fr (H : vm_HY o pi a R σ b st sN tn fr sd PS NS X Y Z) (s : vm_ST X Y l g) (F : vx_fr vm_W3 g g1) : vm_ST X Y l g1 := by
  have e : vx_J g1 21 12 = vx_J g 21 12 := vx_fr_J F (by omega)
  rcases s with ⟨s1, s2⟩ | ⟨s1, s2⟩
  · exact Or.inl ⟨e.trans s1, H.1 l g g1 s2 F⟩
  · exact Or.inr ⟨by rw [e]; exact s1, H.2.1 l g g1 s2 F⟩
/-- a row that gives nothing -/
theorem vm_lp_skip {i : Nat} (F : vx_fr vm_W3 g g1) (no : it i → ∀ u, vm_ag (b e) v u → ¬ vm_at u (R.2.2.2.2.2.2.2.2 (σ e)) (rr i)) (P : vm_lp R σ b PS NS X Y Z e it rr v ch l g1 h1) : vm_lp R σ b PS NS X Y Z e it rr v (i :: ch) l g h1 := by
  obtain ⟨p1, p2, p3, p4⟩ := P
  refine ⟨vx_fr_trans (vx_fr_mono F (fun a k q => vm_W3_W q)) p1, p2, vm_kp_trans (vm_kp_fr F (fun a k q => by omega)) p3, ?_⟩
  have j : vx_J g1 21 12 = vx_J g 21 12 := vx_fr_J F (by omega)
  rcases p4 with ⟨q0, q1, l', q2, q3, q4, q5⟩ | ⟨q1, l', q2, q3⟩
  · refine Or.inl ⟨j.symm.trans q0, q1, l', fun u hu => ?_, fun k hk ik u u1 u2 u3 => ?_, q4, q5⟩
    · obtain ⟨t1, k, t2, t3⟩ := q2 u hu
      exact ⟨t1, k, List.mem_cons_of_mem _ t2, t3⟩
    · rcases List.mem_cons.mp hk with t | t
      · rw [t] at ik u3; exact absurd u3 (no ik u u1)
      · exact q3 k t ik u u1 u2 u3
  · refine Or.inr ⟨q1, l', fun u hu => ?_, q3⟩
    obtain ⟨t1, k, t2, t3⟩ := q2 u hu
    exact ⟨t1, k, List.mem_cons_of_mem _ t2, t3⟩
/-- what a row gives -/
theorem vm_lp_snd {i : Nat} (he : e < R.2.2.2.2.1) (C : vm_cx g o pi a R σ b st sN tn fr sd) (ag : vm_ag (b e) v (vm_hv g)) (s : vm_sp (b e) (b (e + 1)) (fun u => vm_at u (R.2.2.2.2.2.2.2.2 (σ e)) (rr i)) (vm_hv g) 1 (vm_hv g1)) :
    (∀ u, vm_ag (b (e + 1)) (vm_hv g1) u → vm_ag (b e) v u ∧ vm_at u (R.2.2.2.2.2.2.2.2 (σ e)) (rr i)) ∧ ∀ u, vm_ag (b e) v u → vm_at u (R.2.2.2.2.2.2.2.2 (σ e)) (rr i) → vm_ag (b (e + 1)) (vm_hv g1) u := by
  obtain ⟨s1, s2⟩ := s
  have hb : ∀ i, vb (b e) i = true → vb (b (e + 1)) i = true := fun i hi => (vm_b1 C he i).mpr (Or.inl hi)
  rcases s2 with ⟨_, q1, _, q2⟩ | ⟨q, _⟩
  · exact ⟨fun u hu => ⟨vm_ag_trans ag (vm_ag_trans s1 (vm_ag_sub hu hb)), vm_at_ag hu (fun k hk i hi => (vm_b1 C he i).mpr (Or.inr ⟨k, hk, hi⟩)) q1⟩, fun u u1 u2 => q2 u (vm_ag_trans (vm_ag_symm ag) u1) u2⟩
  · exact absurd q (by decide)
/-- a row that gives something, then the rest -/
theorem vm_lp_add {i p : Nat} {g2 : ve_H} {l1 : List (Nat → Int)} (he : e < R.2.2.2.2.1) (C : vm_cx g o pi a R σ b st sN tn fr sd) (k14 : R.2.2.2.2.2.1 (σ e) = 14) (wf : vz_wf R.2.2.1.1 R.2.2.2.1 R.2.2.2.2) (Zm : ∀ l l' u, Z l u → Z (l ++ l') u) (fr0 : vx_fr vm_W g g2) (kp0 : vm_kp g g2) (j0 : vx_J g 21 12 = 0) (ag : vm_ag (b e) v (vm_hv g)) (ii : it i) (hd : ∀ j, j ∈ ch → ¬ vr_eq 5 (rr i) (rr j)) (h0 : ∀ j, j ∈ i :: ch → rr j 0 = p)
    (s : vm_sp (b e) (b (e + 1)) (fun u => vm_at u (R.2.2.2.2.2.2.2.2 (σ e)) (rr i)) (vm_hv g) 1 (vm_hv g1))
    (q2 : ∀ u, u ∈ l1 → vm_ag (b (e + 1)) (vm_hv g1) u ∧ vm_so R.2.2.2.2 σ PS NS (e + 1) u ∧ ∀ v, v < R.2.2.2.1 → vz_va (u v)) (q3 : ∀ u, vm_ag (b (e + 1)) (vm_hv g1) u → vm_so R.2.2.2.2 σ PS NS (e + 1) u → Z (l ++ l1) u) (q4 : (∀ j, j < R.2.2.2.2.1 → R.2.2.2.2.2.1 j = 14 → ∀ k, k < 4 → R.2.2.2.2.2.2.2.2 j k ≠ 288230376151711744) → l1.Pairwise (vm_dt R.2.2.2.1))
    (P : vm_lp R σ b PS NS X Y Z e it rr v ch (l ++ l1) g2 h1) : vm_lp R σ b PS NS X Y Z e it rr v (i :: ch) l g h1 := by
  have sn := vm_lp_snd he C ag s
  obtain ⟨r1, r2, r3, r4⟩ := P
  refine ⟨vx_fr_trans fr0 r1, r2, vm_kp_trans kp0 r3, ?_⟩
  have m1 : ∀ u, u ∈ l1 → (vm_ag (b e) v u ∧ vm_so R.2.2.2.2 σ PS NS (e + 1) u ∧ ∀ v, v < R.2.2.2.1 → vz_va (u v)) ∧ ∃ k, k ∈ i :: ch ∧ it k ∧ vm_at u (R.2.2.2.2.2.2.2.2 (σ e)) (rr k) := fun u hu => by
    have t := q2 u hu
    have t2 := sn.1 u t.1
    exact ⟨⟨t2.1, t.2.1, t.2.2⟩, i, List.mem_cons_self, ii, t2.2⟩
  rcases r4 with ⟨u0, u1, l2, u2, u3, u4, u5⟩ | ⟨u1, l2, u2, u3⟩
  · have m2 : ∀ u, u ∈ l2 → (vm_ag (b e) v u ∧ vm_so R.2.2.2.2 σ PS NS (e + 1) u ∧ ∀ v, v < R.2.2.2.1 → vz_va (u v)) ∧ ∃ k, k ∈ i :: ch ∧ it k ∧ vm_at u (R.2.2.2.2.2.2.2.2 (σ e)) (rr k) := fun u hu => by
      obtain ⟨t1, k, t2, t3⟩ := u2 u hu
      exact ⟨t1, k, List.mem_cons_of_mem _ t2, t3⟩
    refine Or.inl ⟨j0, u1, l1 ++ l2, fun u hu => ?_, fun k hk ik u w1 w2 w3 => ?_, fun na => ?_, by rw [← List.append_assoc]; exact u5⟩
    · rcases List.mem_append.mp hu with t | t
      · exact m1 u t
      · exact m2 u t
    · rw [← List.append_assoc]
      rcases List.mem_cons.mp hk with t | t
      · rw [t] at w3
        exact Zm _ _ u (q3 u (sn.2 u w1 w3) w2)
      · exact u3 k t ik u w1 w2 w3
    · refine List.pairwise_append.mpr ⟨q4 na, u4 na, fun u hu w hw t => ?_⟩
      obtain ⟨_, k, k1, _, k2⟩ := u2 w hw
      have a1 := (sn.1 u (q2 u hu).1).2
      refine hd k k1 (fun c hc => ?_)
      cases c with
      | zero => rw [h0 i List.mem_cons_self, h0 k (List.mem_cons_of_mem _ k1)]
      | succ c =>
        have nac := na (σ e) (C.2.1.1 e he).1 k14 c (by omega)
        have b1 := a1 c (by omega)
        have b2 := k2 c (by omega)
        rcases b1 with b1 | b1
        · exact absurd b1 nac
        rcases b2 with b2 | b2
        · exact absurd b2 nac
        rw [← b1, ← b2]
        rcases vz_v_or (R.2.2.2.2.2.2.2.2 (σ e) c) with ⟨y, hy⟩ | hn
        · rw [vm_v_v hy, vm_v_v hy]
          exact t y ((wf (σ e) (C.2.1.1 e he).1).2.2.2.1 c (by omega) y hy)
        · rw [vm_v_c hn, vm_v_c hn]
  · refine Or.inr ⟨u1, l1 ++ l2, fun u hu => ?_, by rw [← List.append_assoc]; exact u3⟩
    rcases List.mem_append.mp hu with t | t
    · exact m1 u t
    · obtain ⟨t1, k, t2, t3⟩ := u2 u t
      exact ⟨t1, k, List.mem_cons_of_mem _ t2, t3⟩
/-- too many, then the rest -/
theorem vm_lp_full {i : Nat} {g2 : ve_H} {l1 : List (Nat → Int)} (he : e < R.2.2.2.2.1) (C : vm_cx g o pi a R σ b st sN tn fr sd) (fr0 : vx_fr vm_W g g2) (kp0 : vm_kp g g2) (j2 : vx_J g2 21 12 ≠ 0) (ag : vm_ag (b e) v (vm_hv g)) (ii : it i)
    (s : vm_sp (b e) (b (e + 1)) (fun u => vm_at u (R.2.2.2.2.2.2.2.2 (σ e)) (rr i)) (vm_hv g) 1 (vm_hv g1))
    (q2 : ∀ u, u ∈ l1 → vm_ag (b (e + 1)) (vm_hv g1) u ∧ vm_so R.2.2.2.2 σ PS NS (e + 1) u ∧ ∀ v, v < R.2.2.2.1 → vz_va (u v))
    (P : vm_lp R σ b PS NS X Y Z e it rr v ch (l ++ l1) g2 h1) : vm_lp R σ b PS NS X Y Z e it rr v (i :: ch) l g h1 := by
  have sn := vm_lp_snd he C ag s
  obtain ⟨r1, r2, r3, r4⟩ := P
  refine ⟨vx_fr_trans fr0 r1, r2, vm_kp_trans kp0 r3, ?_⟩
  rcases r4 with ⟨u0, _⟩ | ⟨u1, l2, u2, u3⟩
  · exact absurd u0 j2
  · refine Or.inr ⟨u1, l1 ++ l2, fun u hu => ?_, by rw [← List.append_assoc]; exact u3⟩
    rcases List.mem_append.mp hu with t | t
    · have w := q2 u t
      have w2 := sn.1 u w.1
      exact ⟨⟨w2.1, w.2.1, w.2.2⟩, i, List.mem_cons_self, ii, w2.2⟩
    · obtain ⟨t1, k, t2, t3⟩ := u2 u t
      exact ⟨t1, k, List.mem_cons_of_mem _ t2, t3⟩
theorem vm_loop {cnt p : Nat} {cm : Nat → Int} {h0 : ve_H} {v2 v3 v4 : Int} (H : vm_HY o pi a R σ b st sN tn fr sd PS NS X Y Z) (S : vm_sl R.2.2.1.1 R.2.2.2.1 R.2.2.2.2) (htn : ∀ p, (st p : Int) = sN → 0 ≤ tn ∧ tn < 1000) (he : e < R.2.2.2.2.1) (k14 : R.2.2.2.2.2.1 (σ e) = 14) (hp : R.2.2.2.2.2.2.1 (σ e) = p) (p16 : p < 16) (M : vm_M h0 cnt rr cm) (hv : ∀ i, i < cnt → ∀ k, k < 4 → vz_va (rr i (k + 1))) (hx : x = e) (hv2 : v2 = σ e) (hv3 : v3 = b e) (ok : vm_ok (b e) v) (hit : ∀ i, it i ↔ vm_it fr tn ((st p : Int) = sN) e (cm i))
    (IH : ∀ g l, vx_T 1 625 g → vm_cx g o pi a R σ b st sN tn fr sd → vm_ST X Y l g → vm_ok (b (e + 1)) (vm_hv g) → vx_CV (d + 3) 109 [.ref 21, .int (vx_i (x + 1))] g (vm_po R σ b PS NS X Y Z (e + 1) l g)) :
    ∀ (ch : List Nat) (g : ve_H) (l : List (Nat → Int)) (z z2 : Int), (∀ i, i ∈ ch → i < cnt ∧ rr i 0 = p) → ch.Pairwise (fun a b => a ≠ b) → vm_ch g ch z → z2 = (ch.length : Nat) → ch.length ≤ 201 → vx_T 1 625 g → vm_cx g o pi a R σ b st sN tn fr sd → vm_kp h0 g → vm_ST X Y l g → vm_ag (b e) v (vm_hv g) →
    vx_W (d + 3 + 1) 109 220 [some (.ref 21), some (.int (vx_i x)), some (.int (vx_i v2)), some (.int (vx_i v3)), some (.int (vx_i v4)), some (.int (vx_i z)), some (.int (vx_i z2))] [] g (vx_RV (vm_lp R σ b PS NS X Y Z e it rr v ch l g)) := by
  have cnt1 : cnt ≤ 201 := M.1.2.2.1
  have c23 : vx_J h0 23 4 = cnt := M.1.2.1
  intro ch
  induction ch with
  | nil =>
    intro g l z z2 _ _ c1 c2 _ hT C K s ag
    have z0 : z2 = 0 := c2
    refine vg_109_220 hT ⟨by omega, fun _ => ⟨vx_fr_refl, ag, vm_kp_refl, ?_⟩, fun q => absurd q (by omega)⟩
    rcases s with ⟨s1, s2⟩ | ⟨s1, s2⟩
    · exact Or.inl ⟨s1, s1, [], fun u hu => absurd hu List.not_mem_nil, fun i hi => absurd hi List.not_mem_nil, fun _ => List.Pairwise.nil, by rw [List.append_nil]; exact s2⟩
    · exact Or.inr ⟨s1, [], fun u hu => absurd hu List.not_mem_nil, by rw [List.append_nil]; exact s2⟩
  | cons i ch ih =>
    intro g l z z2 cm1 pw c1 c2 c3 hT C K s ag
    have c2' : z2 = (ch.length : Int) + 1 := by rw [c2, List.length_cons]; omega
    rw [List.length_cons] at c3
    have ci := cm1 i List.mem_cons_self
    have hz : z = i := c1.1
    have pwi := List.pairwise_cons.mp pw
    have Ki := K.2 i (by rw [c23]; omega)
    have cs := C.2.1.1 e he
    have W := vm_lw_at C S he
    have e6 : e < 6 := by have := C.1.1.2.2.2.1; omega
    have cmi : vx_J g 27 i = cm i := Ki.2.1.trans (M.2.1 i ci.1)
    have rest : ∀ {g' : ve_H}, vm_kp g g' → vm_ch g' ch (vx_J g' 28 z.toNat) := by
      intro g' K'
      have kg : ∀ j, j < cnt → vx_J g' 28 j = vx_J g 28 j := fun j hj => (K'.2 j (by have := K.1; omega)).2.2
      rw [show z.toNat = i by omega, kg i ci.1]
      exact vm_ch_fr c1.2 (fun j hj => kg j (cm1 j (List.mem_cons_of_mem _ hj)).1)
    refine vg_109_220 hT ⟨by omega, fun q => absurd q (by omega), fun _ => ⟨by omega, fun q => absurd q (by omega), fun _ => ?_⟩⟩
    refine vx_CI_mono (vc_118 (d := d + 3) (c := cm i) (p := p) (σ := σ) hT C.2.2.2.1 C.2.2.2.2.1 C.1.1 hz (by omega) hx e6 cs.1 cs.2.1 hp p16 C.2.2.2.2.2.1 C.2.2.2.2.2.2.1 C.2.2.2.2.2.2.2.1 C.2.2.2.2.2.2.2.2.1 (htn p) cmi) ?_
    rintro r5 h5 _ ⟨rfl, c5⟩ _
    refine ⟨fun q5 => ⟨by omega, ?_⟩, fun q5 => ?_⟩
    · refine vx_mono (ih h5 l _ (z2 + (-1)) (fun j hj => cm1 j (List.mem_cons_of_mem _ hj)) pwi.2 (rest vm_kp_refl) (by omega) (by omega) hT C K s ag) ?_
      rintro ot h1 ⟨eo, P⟩
      refine ⟨eo, vm_lp_skip (g := h5) vx_fr_refl (fun ii => ?_) P⟩
      rcases c5 with ⟨t, _⟩ | ⟨_, t⟩
      · omega
      · exact absurd ((hit i).mp ii) t
    · have ii : it i := by
        rcases c5 with ⟨_, t⟩ | ⟨t, _⟩
        · exact (hit i).mpr t
        · exact absurd t q5
      rw [hv3]
      refine vx_CI_mono (vc_119 (d := d + 2) (f := rr i) (i := i) (b1 := b (e + 1)) hT C.1.1 cs.1 hv2 hz (by omega) (fun k hk => ?_) (hv i ci.1) W.2.2.1 W.2.2.2.2.1 (vm_ok_ag ok ag) (vm_b1 C he)) ?_
      · have t := Ki.1 (k + 1) (by omega)
        have t2 := M.1.2.2.2.1 i (k + 1) ci.1 (by omega)
        rw [vm_K23.2.1] at t2
        rw [← t2, ← t]
        congr 1
        omega
      rintro r8 h8 _ ⟨F8, s8⟩ hT8
      have F8' : vx_fr vm_W3 h5 h8 := vx_fr_mono F8 (fun a k q => Or.inl q)
      have C8 := vm_cx_fr C F8' (fun a k q => vm_W3_W q)
      have K8 : vm_kp h5 h8 := vm_kp_fr F8' (fun a k q => by omega)
      have S8 := vm_ST_fr H s F8'
      refine ⟨fun q8 => ⟨by omega, ?_⟩, fun q8 => ?_⟩
      · rw [hv3] at ih
        refine vx_mono (ih h8 l _ (z2 + (-1)) (fun j hj => cm1 j (List.mem_cons_of_mem _ hj)) pwi.2 (rest K8) (by omega) (by omega) hT8 C8 (vm_kp_trans K K8) S8 (vm_ag_trans ag s8.1)) ?_
        rintro ot h1 ⟨eo, P⟩
        refine ⟨eo, vm_lp_skip (g := h5) F8' (fun _ u hu => ?_) P⟩
        rcases s8.2 with ⟨t, _⟩ | ⟨_, t⟩
        · omega
        · exact t u (vm_ag_trans (vm_ag_symm ag) hu)
      · have e8 : r8 = 1 := by
          rcases vm_sp_01 s8 with t | t
          · exact absurd t q8
          · exact t
        rw [e8] at s8
        have ok8 : vm_ok (b (e + 1)) (vm_hv h8) := by
          rcases s8.2 with ⟨_, _, t, _⟩ | ⟨t, _⟩
          · exact t
          · exact absurd t (by decide)
        refine vx_CV_mono (IH h8 l hT8 C8 S8 ok8) ?_
        rintro h11 P11 hT11
        refine ⟨by omega, ?_⟩
        rw [hv3] at ih
        have K11 : vm_kp h5 h11 := vm_kp_trans K8 P11.2.2.1
        have C11 := vm_cx_fr C8 P11.1 (fun a k q => q)
        have ag11 : vm_ag (b e) v (vm_hv h11) := vm_ag_trans ag (vm_ag_trans s8.1 (vm_ag_sub P11.2.1 (fun i hi => (vm_b1 C he i).mpr (Or.inl hi))))
        have go : ∀ l2, vm_ST X Y l2 h11 → vx_W (d + 3 + 1) 109 220 [some (.ref 21), some (.int (vx_i x)), some (.int (vx_i v2)), some (.int (vx_i (b e))), some (.int (vx_i v4)), some (.int (vx_i (vx_J h11 28 z.toNat))), some (.int (vx_i (z2 + (-1))))] [] h11 (vx_RV (vm_lp R σ b PS NS X Y Z e it rr v ch l2 h11)) := fun l2 S2 => ih h11 l2 _ (z2 + (-1)) (fun j hj => cm1 j (List.mem_cons_of_mem _ hj)) pwi.2 (rest K11) (by omega) (by omega) hT11 C11 (vm_kp_trans K K11) S2 ag11
        have hd : ∀ j, j ∈ ch → ¬ vr_eq 5 (rr i) (rr j) := fun j hj t => pwi.1 j hj (M.1.2.2.2.2.2 i j ci.1 (cm1 j (List.mem_cons_of_mem _ hj)).1 t)
        have fr0 : vx_fr vm_W h5 h11 := vx_fr_trans (vx_fr_mono F8' (fun a k q => vm_W3_W q)) P11.1
        obtain ⟨_, _, _, p4⟩ := P11
        have j8 : vx_J h8 21 12 = vx_J h5 21 12 := vx_fr_J F8' (by omega)
        rcases p4 with ⟨q0, q1, l1, q2, q3, q4, q5'⟩ | ⟨q1, l1, q2, q3'⟩
        · refine vx_mono (go (l ++ l1) (Or.inl ⟨q1, q5'⟩)) ?_
          rintro ot h1 ⟨eo, P⟩
          exact ⟨eo, vm_lp_add he C k14 S.1 H.2.2.1 fr0 K11 (j8.symm.trans q0) ag ii hd (fun j hj => (cm1 j hj).2) s8 q2 q3 q4 P⟩
        · refine vx_mono (go (l ++ l1) (Or.inr ⟨q1, q3'⟩)) ?_
          rintro ot h1 ⟨eo, P⟩
          exact ⟨eo, vm_lp_full he C fr0 K11 q1 ag ii s8 q2 P⟩
end
