/-! answer: the pair -/
/-- all but S as it was, and at most one cell more -/
def vx_fq (S : Nat → Nat → Prop) (h h1 : ve_H) : Prop := (ve_n h1 ≤ ve_n h + 1 ∧ ve_u h1 ≤ ve_u h + 6) ∧ ∀ a k, ¬ S a k → vx_J h1 a k = vx_J h a k ∧ vx_K h1 a k = vx_K h a k ∧ ve_R h1 a k = ve_R h a k
section
variable {S S2 : Nat → Nat → Prop} {h h1 h2 : ve_H} {a kd : Nat}
theorem vx_fq_fr (f : vx_fr S h h1) : vx_fq S h h1 := ⟨⟨by rw [f.1.1]; omega, by rw [f.1.2]; omega⟩, f.2⟩
theorem vx_fq_new (e : h1 = ve_new h kd 6) : vx_fq S h h1 := by
  subst e
  exact ⟨⟨Nat.le_refl _, Nat.le_refl _⟩, fun _ _ _ => ⟨rfl, rfl, rfl⟩⟩
theorem vx_fq_mono (f : vx_fq S h h1) (hs : ∀ a k, S a k → S2 a k) : vx_fq S2 h h1 := ⟨f.1, fun a k q => f.2 a k (fun t => q (hs a k t))⟩
theorem vx_fq_J (f : vx_fq S h h1) {k : Nat} (q : ¬ S a k) : vx_J h1 a k = vx_J h a k := (f.2 a k q).1
theorem vx_fq_K (f : vx_fq S h h1) {k : Nat} (q : ¬ S a k) : vx_K h1 a k = vx_K h a k := (f.2 a k q).2.1
theorem vx_fq_R (f : vx_fq S h h1) {k : Nat} (q : ¬ S a k) : ve_R h1 a k = ve_R h a k := (f.2 a k q).2.2
theorem vx_fq_l (f : vx_fq S h h1) (g : vx_fr S h1 h2) : vx_fq S h h2 := ⟨⟨by rw [g.1.1]; exact f.1.1, by rw [g.1.2]; exact f.1.2⟩, fun a k q => ⟨(g.2 a k q).1.trans (f.2 a k q).1, (g.2 a k q).2.1.trans (f.2 a k q).2.1, (g.2 a k q).2.2.trans (f.2 a k q).2.2⟩⟩
theorem vx_fq_r (f : vx_fr S h h1) (g : vx_fq S h1 h2) : vx_fq S h h2 := ⟨⟨by rw [← f.1.1]; exact g.1.1, by rw [← f.1.2]; exact g.1.2⟩, fun a k q => ⟨(g.2 a k q).1.trans (f.2 a k q).1, (g.2 a k q).2.1.trans (f.2 a k q).2.1, (g.2 a k q).2.2.trans (f.2 a k q).2.2⟩⟩
end
/-- answers: the class's and the reference's -/
def vi_A (h : ve_H) (aa n ac : Nat) (ar : Nat → Nat → Int) (o : Nat → Nat) : Prop := ve_R h 1 5 = some aa ∧ (aa = 617 ∨ aa = 621) ∧ vr_P aa 8 ac ar h ∧ ac ≤ 200 ∧ vx_J h 1 7 = n ∧ n ≤ 8 ∧ (∀ j, j < ac → o j < ac ∧ vx_J h (aa + 2) j = o j) ∧ vx_J h 625 38 = ac ∧ vx_J h 625 39 = n ∧ ∀ j, j < ac → ∀ v, v < n → vy_vr (ar (o j) v) (vx_K h 653 (8 * j + v))
theorem vm_ta {aa : Nat} (q : aa = 617 ∨ aa = 621) : vm_tg aa 8 := by
  rcases q with rfl | rfl
  · exact vm_t617
  · exact vm_t621
section
variable {d L aa n ac : Nat} {xs : Nat → Int32} {h : ve_H} {ar : Nat → Nat → Int} {o : Nat → Nat} {x y : Int} {I' : ve_H → Prop}
theorem vc_7 (hT : vx_T 1 625 h) (A : vi_A h aa n ac ar o) (rk : ve_rk h 6 = true) (hx : vx_rI x) (hy : vx_rI y) : vx_CXL (d + 3) 7 [.ref 1, .int (vx_i x), .int (vx_i y)] h (fun r h1 => h1 = h ∧ (0 ≤ x ∧ x < ac ∧ 0 ≤ y ∧ y < n) ∧ r = vx_K h 653 (8 * x + y).toNat) (fun kx h1 => kx = 12 ∧ vx_fq (fun _ _ => False) h h1 ∧ ¬ (0 ≤ x ∧ x < ac ∧ 0 ≤ y ∧ y < n)) := by
  obtain ⟨a1, a2, a3, a4, a5, a6, a7, a8, a9, a10⟩ := A
  have ta := vm_ta a2
  have ca : vx_J h aa 4 = ac := a3.2.1
  have bad : ¬ (0 ≤ x ∧ x < ac ∧ 0 ≤ y ∧ y < n) → ve_rk h 6 = true ∧ ∀ h3, h3 = ve_new h 12 6 → vx_T 1 625 h3 → (12 : Nat) = 12 ∧ vx_fq (fun _ _ => False) h h3 ∧ ¬ (0 ≤ x ∧ x < ac ∧ 0 ≤ y ∧ y < n) := fun q => ⟨rk, fun h3 e3 _ => ⟨rfl, vx_fq_new e3, q⟩⟩
  refine vg_7 (d := d + 2) hT ⟨hx, fun q => bad (by omega), fun q0 => ⟨aa, a1, ta.1.1, ?_⟩⟩
  rw [ca, a5]
  refine ⟨fun q => bad (by omega), fun q1 => ⟨hy, fun q => bad (by omega), fun q2 => ⟨fun q3 => ?_, fun q => bad (by omega)⟩⟩⟩
  obtain ⟨j, hj⟩ : ∃ j : Nat, x = j := ⟨x.toNat, by omega⟩
  obtain ⟨v, hv⟩ : ∃ v : Nat, y = v := ⟨y.toNat, by omega⟩
  have oj := a7 j (by omega)
  refine vg_180 ta.1.1 hT ?_
  rw [ta.2.2.2.2, ta.2.2.1, show x.toNat = j by omega, oj.2, a3.1, show ((o j : Int) * ((8 : Nat) : Int) + y).toNat = o j * 8 + v by omega]
  have za := ta.1.2.2
  rw [ta.2.2.1] at za
  have cell := a3.2.2.2.1 (o j) v oj.1 (by omega)
  rw [ta.2.2.1] at cell
  rw [za, cell]
  refine ⟨by omega, by omega, fun _ => vx_CL_mono (vc_14 (d := d) hT (a10 j (by omega) v (by omega))) ?_⟩
  rintro r15 h15 _ ⟨rfl, e15⟩ _
  refine ⟨rfl, by omega, ?_⟩
  rw [e15, show (8 * x + y).toNat = 8 * j + v by omega]
/-- answer: class and reference -/
theorem vp_6 (hT : vx_TL L xs h) (A : vi_A h aa n ac ar o) (rk : ve_rk h 6 = true) (hx : vx_rI x) (hy : vx_rI y) (K : ∀ h2, vx_TL L xs h2 → vx_fq (fun a k => a = 672 ∨ (a = 625 ∧ k = 0)) h h2 → I' h2) : vl_L (d + 4) L xs I' 213 95 [.int (vx_i x), .int (vx_i y)] h := by
  have A' := A
  obtain ⟨a1, a2, a3, a4, a5, a6, a7, a8, a9, a10⟩ := A'
  -- the reference behind the class
  have REF : ∀ (r : Int) (h1 : ve_H), vx_TL L xs h1 → vx_fq (fun a k => a = 672 ∨ (a = 625 ∧ k = 0)) h h1 → ((r = 0 ∧ (0 ≤ x ∧ x < ac ∧ 0 ≤ y ∧ y < n) ∧ vx_K h1 672 0 = vx_K h 653 (8 * x + y).toNat) ∨ (r = 1 ∧ ¬ (0 ≤ x ∧ x < ac ∧ 0 ≤ y ∧ y < n))) → vx_CL (d + 4) 95 [.ref 625, .int (vx_i x), .int (vx_i y)] h1 (fun b h2 => vx_TL L xs h2 → vx_J h2 625 0 = r ∧ (r = 0 → vx_K h2 672 0 = b) ∧ I' h2) := by
    intro r h1 T1 F1 c
    have j38 : vx_J h1 625 38 = ac := (vx_fq_J F1 (by omega)).trans a8
    have j39 : vx_J h1 625 39 = n := (vx_fq_J F1 (by omega)).trans a9
    have bad : ¬ (0 ≤ x ∧ x < ac ∧ 0 ≤ y ∧ y < n) → ∀ h3, h3 = vx_sJ h1 625 0 1 → vx_T 625 672 h3 → vx_TL L xs h3 → vx_J h3 625 0 = r ∧ (r = 0 → vx_K h3 672 0 = 0) ∧ I' h3 := by
      intro q h3 e3 _ T3
      have er : r = 1 := by
        rcases c with ⟨_, t, _⟩ | ⟨t, _⟩
        · exact absurd t q
        · exact t
      refine ⟨by rw [e3, vx_J_eq (by decide), er], fun t => absurd t (by omega), K h3 T3 (vx_fq_l F1 (vx_fr_sJ vx_fr_refl e3 (Or.inr ⟨rfl, rfl⟩)))⟩
    refine vg_95 (vx_TLT T1) ⟨hx, fun q => bad (by omega), fun q0 => ?_⟩
    rw [j38, j39]
    refine ⟨fun q => bad (by omega), fun q1 => ⟨hy, fun q => bad (by omega), fun q2 => ⟨fun q3 => ?_, fun q => bad (by omega)⟩⟩⟩
    rintro h10 e10 _
    refine ⟨by omega, fun T10 => ?_⟩
    obtain ⟨er, ek⟩ : r = 0 ∧ vx_K h1 672 0 = vx_K h 653 (8 * x + y).toNat := by
      rcases c with ⟨t, _, t2⟩ | ⟨_, t⟩
      · exact ⟨t, t2⟩
      · exact absurd ⟨q0, q1, q2, q3⟩ t
    refine ⟨by rw [e10, vx_J_eq (by decide), er], fun _ => ?_, K h10 T10 (vx_fq_l F1 (vx_fr_sJ vx_fr_refl e10 (Or.inr ⟨rfl, rfl⟩)))⟩
    rw [e10, vx_K_sJ, vx_K_sJ, ek, vx_fq_K F1 (by omega)]
  refine vg_213 (d := d + 3) hT.1 (vx_CXL_mono (vc_7 (d := d) (vx_TLC hT) A rk hx hy) ?_ ?_)
  · rintro r1 h1 hr1 ⟨rfl, rg, er⟩ _ h2 e2 _ T2
    have F2 : vx_fr (fun a k => a = 672 ∨ (a = 625 ∧ k = 0)) h1 h2 := vx_fr_sK vx_fr_refl e2 (Or.inl rfl)
    exact REF 0 h2 T2 (vx_fq_fr F2) (Or.inl ⟨rfl, rg, by rw [e2, vx_K_eq hr1]; exact er⟩)
  · rintro kx h1 ⟨ek, F1, no⟩ _
    exact ⟨ek, fun T1 => REF 1 h1 T1 (vx_fq_mono F1 (fun a k q => absurd q (fun t => t))) (Or.inr ⟨rfl, no⟩)⟩
end
