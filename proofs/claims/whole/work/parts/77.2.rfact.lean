/-! Facts that are read alone: the reference -/
abbrev vu_SW (sd a k : Nat) : Prop := (a = 625 ∧ k ≠ 11 ∧ k ≠ 36 ∧ k ≠ 37 ∧ k ≠ 38 ∧ k ≠ 39) ∨ (627 ≤ a ∧ a ≤ 630) ∨ (655 ≤ a ∧ a ≤ 659) ∨ ((a = 631 ∨ a = 647) ∧ k = sd) ∨ ((a = 632 ∨ a = 633) ∧ 16 * sd ≤ k ∧ k < 16 * sd + 16) ∨ ((a = 636 ∨ a = 639 ∨ a = 640 ∨ a = 641 ∨ a = 642 ∨ a = 662) ∧ k = 60) ∨ ((a = 637 ∨ a = 638) ∧ 240 ≤ k) ∨ ((a = 643 ∨ a = 644 ∨ a = 660 ∨ a = 661) ∧ 360 ≤ k) ∨ ((a = 645 ∨ a = 646) ∧ 1440 ≤ k) ∨ (a = 648 ∧ 400 * sd ≤ k ∧ k < 400 * sd + 400) ∨ (a = 649 ∧ 1600 * sd ≤ k ∧ k < 1600 * sd + 1600)
theorem vu_SW_f {sd a k : Nat} (q : vu_Sf 60 sd a k) : vu_SW sd a k := by
  rcases q with ((((q | q | q | q | q | q) | q | q | q) | q | q | q | q)) | (q | q) | (q | q) | q
  · obtain ⟨rfl, q⟩ := q; left; omega
  · obtain ⟨rfl, q⟩ := q; simp [vu_SW]; omega
  · subst q; simp [vu_SW]
  · subst q; simp [vu_SW]
  · subst q; simp [vu_SW]
  · subst q; simp [vu_SW]
  · obtain ⟨rfl, q⟩ := q; left; omega
  · obtain ⟨rfl, q⟩ := q; simp [vu_SW]; omega
  · obtain ⟨rfl | rfl, q⟩ := q <;> (simp [vu_SW]; omega)
  · obtain ⟨rfl, q⟩ := q; left; omega
  · obtain ⟨rfl, q⟩ := q; simp [vu_SW]; omega
  · obtain ⟨rfl | rfl | rfl | rfl, q⟩ := q <;> (simp [vu_SW]; omega)
  · obtain ⟨rfl | rfl, q⟩ := q <;> (simp [vu_SW]; omega)
  · obtain ⟨rfl, q⟩ := q; left; omega
  · obtain ⟨rfl | rfl | rfl, q⟩ := q <;> (simp [vu_SW]; omega)
  · obtain ⟨rfl | rfl | rfl | rfl, q⟩ := q <;> (simp [vu_SW]; omega)
  · obtain ⟨rfl | rfl, q⟩ := q <;> (simp [vu_SW]; omega)
  · subst q; simp [vu_SW]
theorem vu_SW_5 {sd a k : Nat} (q : a = 625 ∧ k ≠ 11 ∧ k ≠ 36 ∧ k ≠ 37 ∧ k ≠ 38 ∧ k ≠ 39) : vu_SW sd a k := Or.inl q
theorem vu_SW_t {sd a k : Nat} (q : 627 ≤ a ∧ a ≤ 630) : vu_SW sd a k := Or.inr (Or.inl q)
theorem vu_SW_a {sd cnt a k : Nat} (hc : cnt < 400) (q : vu_Sa sd (400 * sd + cnt) a k) : vu_SW sd a k := by
  rcases q with q | q | q
  · obtain ⟨rfl, q⟩ := q; simp [vu_SW]; omega
  · obtain ⟨rfl, q⟩ := q; simp [vu_SW]; omega
  · obtain ⟨rfl, q⟩ := q; simp [vu_SW]; omega
/-- the reference's facts -/
def vu_rN (h : ve_H) (sd : Nat) (Pd : vy_V) (cnt : Nat) (rr : Nat → Nat → Int) : Prop := vx_J h 647 sd = (cnt : Nat) ∧ cnt ≤ 200 ∧ (∀ j, j < cnt → vu_rf h (400 * sd + j) Pd (rr j)) ∧ ∀ i j, i < cnt → j < cnt → vr_eq 5 (rr i) (rr j) → i = j
/-- facts with one taken out -/
def vu_sh (rr : Nat → Nat → Int) (f : Nat) : Nat → Nat → Int := fun j => if j < f then rr j else rr (j + 1)
section
variable {d i n m sd cnt f : Nat} {h h1 g : ve_H} {ts : vy_T} {V Pd : vy_V} {O : vy_O} {F : vy_F} {c : Nat → Int} {rr : Nat → Nat → Int} {x : Int}
theorem vu_rN_fr {S : Nat → Nat → Prop} (N : vu_rN h sd Pd cnt rr) (fr : vx_fr S h h1) (hs : ∀ k, ¬ S 647 k ∧ ¬ S 648 k ∧ ¬ S 649 k) : vu_rN h1 sd Pd cnt rr :=
  ⟨(vx_fr_J fr (hs _).1).trans N.1, N.2.1, fun j hj => vu_rf_fr (N.2.2.1 j hj) fr ⟨(hs _).2.1, fun k _ _ => (hs k).2.2⟩, N.2.2.2⟩
theorem vc_63_278 {P : Int → ve_H → Prop} {v1 v2 v3 v4 : Int} {b : Nat} (hb : b + 1 < 800) (hv : v4 = b) (X : ∀ g v5, vx_T 625 672 g → vx_fr (fun a k => a = 649 ∧ 4 * b ≤ k ∧ k < 4 * b + 4) h g → (∀ k, k < 4 → vx_K g 649 (4 * b + k) = vx_K h 649 (4 * (b + 1) + k)) → vx_W (d + 1) 63 236 [some (.ref 625), some (.int (vx_i v1)), some (.int (vx_i v2)), some (.int (vx_i v3)), some (.int (vx_i (v4 + 1))), v5] [] g (vx_RI P)) :
    ∀ (m k : Nat) (g : ve_H) (z : Int), m = 4 - k → k ≤ 4 → z = k → vx_T 625 672 g → vx_fr (fun a k => a = 649 ∧ 4 * b ≤ k ∧ k < 4 * b + 4) h g → (∀ j, j < k → vx_K g 649 (4 * b + j) = vx_K h 649 (4 * (b + 1) + j)) → vx_W (d + 1) 63 278 [some (.ref 625), some (.int (vx_i v1)), some (.int (vx_i v2)), some (.int (vx_i v3)), some (.int (vx_i v4)), some (.int (vx_i z))] [] g (vx_RI P) := by
  intro m
  induction m with
  | zero =>
    intro k g z hm hk hz hT fr A
    exact vg_63_278 hT ⟨by omega, fun _ => X g _ hT fr (fun j hj => A j (by omega)), fun q => absurd q (by omega)⟩
  | succ m ih =>
    intro k g z hm hk hz hT fr A
    refine vg_63_278 hT ?_
    rw [show (4 * v4 + z).toNat = 4 * b + k by omega, show (4 * v4 + 4 + z).toNat = 4 * (b + 1) + k by omega]
    refine ⟨by omega, fun q => absurd q (by omega), fun _ => ⟨by omega, by omega, fun h5 e5 T5 => ?_⟩⟩
    have f5 : vx_fr (fun a j => a = 649 ∧ j = 4 * b + k) g h5 := vx_fr_sK vx_fr_refl e5 ⟨rfl, rfl⟩
    refine ih (k + 1) h5 (z + 1) (by omega) (by omega) (by omega) T5 (vx_fr_trans fr (vx_fr_mono f5 (fun a k q => by omega))) (fun j hj => ?_)
    by_cases q : j = k
    · rw [q, e5, vx_K_eq (vx_rL_K _ _ _)]
      exact vx_fr_K fr (by omega)
    · rw [vx_fr_K f5 (fun t => q (by omega))]
      exact A j (by omega)
/-- those behind come up -/
theorem vc_63_236 {P : Int → ve_H → Prop} {v1 v2 v3 : Int} (hsd : sd < 2) (c11 : vx_J h 625 11 = sd) (hc : cnt < 200) (hf : f ≤ cnt) (N : ∀ j, j < cnt + 1 → vu_rf h (400 * sd + j) Pd (rr j)) (e47 : vx_J h 647 sd = (cnt : Nat))
    (X : ∀ g v4 v5, vx_T 625 672 g → vx_fr (fun a k => (a = 648 ∧ 400 * sd ≤ k ∧ k < 400 * sd + 400) ∨ (a = 649 ∧ 1600 * sd ≤ k ∧ k < 1600 * sd + 1600)) h g → (∀ j, j < cnt → vu_rf g (400 * sd + j) Pd (vu_sh rr f j)) → vx_W (d + 1) 63 322 [some (.ref 625), some (.int (vx_i v1)), some (.int (vx_i v2)), some (.int (vx_i v3)), v4, v5] [] g (vx_RI P)) :
    ∀ (m b : Nat) (g : ve_H) (z : Int) (v5 : Option Value), m = cnt - b → f ≤ b → b ≤ cnt → z = ((400 * sd + b : Nat) : Int) → vx_T 625 672 g → vx_fr (fun a k => (a = 648 ∧ 400 * sd ≤ k ∧ k < 400 * sd + 400) ∨ (a = 649 ∧ 1600 * sd ≤ k ∧ k < 1600 * sd + 1600)) h g → (∀ j, j < b → vu_rf g (400 * sd + j) Pd (vu_sh rr f j)) → (∀ j, b < j → j < cnt + 1 → vu_rf g (400 * sd + j) Pd (rr j)) → vx_W (d + 1) 63 236 [some (.ref 625), some (.int (vx_i v1)), some (.int (vx_i v2)), some (.int (vx_i v3)), some (.int (vx_i z)), v5] [] g (vx_RI P) := by
  intro m
  induction m with
  | zero =>
    intro b g z v5 hm hfb hb hz hT fr A B
    have e : b = cnt := by omega
    rw [e] at A
    refine vg_63_236 hT ?_
    rw [vx_fr_J fr (by simp), c11, Int.toNat_natCast, vx_fr_J fr (by simp), e47]
    exact ⟨by omega, by omega, by omega, fun _ => X g _ _ hT fr A, fun q => absurd q (by omega)⟩
  | succ m ih =>
    intro b g z v5 hm hfb hb hz hT fr A B
    refine vg_63_236 hT ?_
    rw [vx_fr_J fr (by simp), c11, Int.toNat_natCast, vx_fr_J fr (by simp), e47, show z.toNat = 400 * sd + b by omega, show (z + 1).toNat = 400 * sd + (b + 1) by omega]
    refine ⟨by omega, by omega, by omega, fun q => absurd q (by omega), fun _ => ⟨by omega, by omega, fun h7 e7 T7 => ?_⟩⟩
    have f7 : vx_fr (fun a k => a = 648 ∧ k = 400 * sd + b) g h7 := vx_fr_sJ vx_fr_refl e7 ⟨rfl, rfl⟩
    refine vc_63_278 (h := h7) (b := 400 * sd + b) (by omega) hz (fun g2 v5 T2 f2 A2 => ?_) 4 0 h7 0 rfl (by omega) rfl T7 vx_fr_refl (fun j hj => absurd hj (by omega))
    have fg : vx_fr (fun a k => (a = 648 ∧ k = 400 * sd + b) ∨ (a = 649 ∧ 4 * (400 * sd + b) ≤ k ∧ k < 4 * (400 * sd + b) + 4)) g g2 := vx_fr_trans (vx_fr_mono f7 (fun a k q => Or.inl q)) (vx_fr_mono f2 (fun a k q => Or.inr q))
    refine ih (b + 1) g2 (z + 1) v5 (by omega) (by omega) (by omega) (by omega) T2 (vx_fr_trans fr (vx_fr_mono fg (fun a k q => by omega))) (fun j hj => ?_) (fun j h1 h2 => vu_rf_fr (B j (by omega) h2) fg ⟨by omega, fun k _ _ => by omega⟩)
    by_cases q : j = b
    · subst q
      obtain ⟨p, m, b1, b2, b3, b4, b5, b6, b7⟩ := B (j + 1) (by omega) (by omega)
      have es : vu_sh rr f j = rr (j + 1) := if_neg (by omega)
      rw [es]
      refine ⟨p, m, b1, b2, b3, b4, ?_, fun k hk => ?_, b7⟩
      · rw [vx_fr_J f2 (by omega), e7, vx_J_eq (vx_rI_J _ _ _)]; exact b5
      · rw [A2 k (by omega), vx_fr_K f7 (by omega)]; exact b6 k hk
    · exact vu_rf_fr (A j (by omega)) fg ⟨by omega, fun k _ _ => by omega⟩
end
