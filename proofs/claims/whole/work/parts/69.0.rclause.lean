/-! Clauses of the reference: what is laid -/
abbrev vu_Sb (c a k : Nat) : Prop := (a = 625 ∧ (k = 42 ∨ k = 53 ∨ k = 54)) ∨ ((a = 639 ∨ a = 641 ∨ a = 642) ∧ k = c)
abbrev vu_Sl (c a k : Nat) : Prop := ((a = 636 ∨ a = 639 ∨ a = 640 ∨ a = 662) ∧ k = c) ∨ ((a = 637 ∨ a = 638) ∧ 4 * c ≤ k ∧ k < 4 * c + 4)
abbrev vu_Sa (sd f a k : Nat) : Prop := (a = 647 ∧ k = sd) ∨ (a = 648 ∧ k = f) ∨ (a = 649 ∧ 4 * f ≤ k ∧ k < 4 * f + 4)
/-- fact f is what was read -/
def vu_sm (h : ve_H) (f m : Nat) : Prop := vx_J h 648 f = vx_J h 625 57 ∧ ∀ k, k < m → vx_K h 649 (4 * f + k) = vx_K h 659 k
section
variable {d c sd m : Nat} {h : ve_H} {x : Int}
theorem vc_51 (hT : vx_T 625 672 h) (hx : x = c) (hc : c < 61) : vx_CV d 51 [.ref 625, .int (vx_i x)] h (fun h1 => vx_fr (vu_Sb c) h h1 ∧ vx_J h1 625 42 = c ∧ vx_J h1 642 c = 0 ∧ vx_J h1 641 c = 0 ∧ vx_J h1 639 c = 0 ∧ vx_J h1 625 54 = 0 ∧ vx_J h1 625 53 = -1) := by
  have ex : x.toNat = c := by omega
  refine vg_51 hT (fun h1 e1 T1 => ⟨by omega, fun h3 e3 T3 => ⟨by omega, fun h5 e5 T5 => ⟨by omega, fun h7 e7 T7 h8 e8 T8 h9 e9 T9 => ?_⟩⟩⟩)
  rw [ex] at e3 e5 e7
  refine ⟨vx_fr_sJ (vx_fr_sJ (vx_fr_sJ (vx_fr_sJ (vx_fr_sJ (vx_fr_sJ vx_fr_refl e1 (by omega)) e3 (by omega)) e5 (by omega)) e7 (by omega)) e8 (by omega)) e9 (by omega), ?_, ?_, ?_, ?_, ?_, ?_⟩
  · rw [e9, vx_J_ne (by omega), e8, vx_J_ne (by omega), e7, vx_J_ne (by omega), e5, vx_J_ne (by omega), e3, vx_J_ne (by omega), e1, vx_J_eq (by omega), hx]
  · rw [e9, vx_J_ne (by omega), e8, vx_J_ne (by omega), e7, vx_J_ne (by omega), e5, vx_J_ne (by omega), e3, vx_J_eq (by decide)]
  · rw [e9, vx_J_ne (by omega), e8, vx_J_ne (by omega), e7, vx_J_ne (by omega), e5, vx_J_eq (by decide)]
  · rw [e9, vx_J_ne (by omega), e8, vx_J_ne (by omega), e7, vx_J_eq (by decide)]
  · rw [e9, vx_J_ne (by omega), e8, vx_J_eq (by decide)]
  · rw [e9, vx_J_eq (by decide)]
theorem vc_52_15 (hc : c < 61) (hm : m ≤ 4) (c42 : vx_J h 625 42 = c) (c50 : vx_J h 625 50 = (m : Nat)) : ∀ (n k : Nat) (g : ve_H) (z : Int), n = m - k → k ≤ m → z = k → vx_T 625 672 g → vx_fr (fun a j => (a = 636 ∧ j = c) ∨ ((a = 637 ∨ a = 638) ∧ 4 * c ≤ j ∧ j < 4 * c + 4)) h g → vx_J g 636 c = vx_J h 625 57 → (∀ j, j < k → vx_J g 637 (4 * c + j) = vx_J h 658 j ∧ vx_K g 638 (4 * c + j) = vx_K h 659 j) → vx_W d 52 15 [some (.ref 625), some (.int (vx_i z))] [] g (vx_RV (fun h1 => vx_fr (vu_Sl c) h h1 ∧ vx_J h1 636 c = vx_J h 625 57 ∧ vx_J h1 639 c = vx_J h 625 54 ∧ vx_J h1 640 c = vx_J h 625 55 ∧ vx_J h1 662 c = vx_J h 625 56 ∧ ∀ j, j < m → vx_J h1 637 (4 * c + j) = vx_J h 658 j ∧ vx_K h1 638 (4 * c + j) = vx_K h 659 j)) := by
  intro n
  induction n with
  | zero =>
    intro k g z hn hk hz hT f e36 hA
    have d42 : vx_J g 625 42 = c := (vx_fr_J f (by simp)).trans c42
    have d50 : vx_J g 625 50 = (m : Nat) := (vx_fr_J f (by simp)).trans c50
    have d54 : vx_J g 625 54 = vx_J h 625 54 := vx_fr_J f (by simp)
    have d55 : vx_J g 625 55 = vx_J h 625 55 := vx_fr_J f (by simp)
    have d56 : vx_J g 625 56 = vx_J h 625 56 := vx_fr_J f (by simp)
    have hkm : k = m := by omega
    refine vg_52_15 hT ?_
    rw [d42, d50, Int.toNat_natCast]
    refine ⟨by omega, fun _ => ⟨by omega, fun h4 e4 T4 => ?_⟩, fun q => absurd q (by omega)⟩
    have g42 : vx_J h4 625 42 = c := by rw [e4, vx_J_ne (by omega), d42]
    rw [g42, Int.toNat_natCast]
    refine ⟨by omega, fun h6 e6 T6 => ?_⟩
    have k42 : vx_J h6 625 42 = c := by rw [e6, vx_J_ne (by omega), g42]
    rw [k42, Int.toNat_natCast]
    refine ⟨by omega, fun h8 e8 T8 => ?_⟩
    have f8 : vx_fr (fun a k => (a = 639 ∨ a = 640 ∨ a = 662) ∧ k = c) g h8 := vx_fr_sJ (vx_fr_sJ (vx_fr_sJ vx_fr_refl e4 (by omega)) e6 (by omega)) e8 (by omega)
    refine ⟨vx_fr_trans (vx_fr_mono f (fun a k q => by omega)) (vx_fr_mono f8 (fun a k q => by omega)), (vx_fr_J f8 (by simp)).trans e36, ?_, ?_, ?_, fun j hj => ?_⟩
    · rw [e8, vx_J_ne (by omega), e6, vx_J_ne (by omega), e4, vx_J_eq (vx_rI_J _ _ _), d54]
    · rw [e8, vx_J_ne (by omega), e6, vx_J_eq (vx_rI_J _ _ _), e4, vx_J_ne (by omega), d55]
    · rw [e8, vx_J_eq (vx_rI_J _ _ _), e6, vx_J_ne (by omega), e4, vx_J_ne (by omega), d56]
    · rw [vx_fr_J f8 (by simp), vx_fr_K f8 (by simp)]; exact hA j (by omega)
  | succ n ih =>
    intro k g z hn hk hz hT f e36 hA
    have d42 : vx_J g 625 42 = c := (vx_fr_J f (by simp)).trans c42
    have d50 : vx_J g 625 50 = (m : Nat) := (vx_fr_J f (by simp)).trans c50
    have d58 : vx_J g 658 k = vx_J h 658 k := vx_fr_J f (by simp)
    have d59 : vx_K g 659 k = vx_K h 659 k := vx_fr_K f (by simp)
    refine vg_52_15 hT ?_
    rw [d42, d50, show z.toNat = k by omega, show (4 * (c : Int) + z).toNat = 4 * c + k by omega]
    refine ⟨by omega, fun q => absurd q (by omega), fun _ => ⟨by omega, by omega, fun h11 e11 T11 => ⟨by omega, ?_⟩⟩⟩
    have g42 : vx_J h11 625 42 = c := by rw [e11, vx_J_ne (by omega), d42]
    rw [g42, show (4 * (c : Int) + z).toNat = 4 * c + k by omega]
    refine ⟨by omega, fun h14 e14 T14 => ?_⟩
    have f14 : vx_fr (fun a j => (a = 637 ∨ a = 638) ∧ j = 4 * c + k) g h14 := vx_fr_sK (vx_fr_sJ vx_fr_refl e11 ⟨Or.inl rfl, rfl⟩) e14 ⟨Or.inr rfl, rfl⟩
    refine ih (k + 1) h14 (z + 1) (by omega) (by omega) (by omega) T14 (vx_fr_trans f (vx_fr_mono f14 (fun a k q => by omega))) ((vx_fr_J f14 (by simp)).trans e36) (fun j hj => ?_)
    by_cases q : j = k
    · rw [q, e14, vx_J_sK, vx_K_eq (vx_rL_K _ _ _), e11, vx_J_eq (vx_rI_J _ _ _), vx_K_sJ, d58, d59]
      exact ⟨rfl, rfl⟩
    · rw [vx_fr_J f14 (fun t => q (by omega)), vx_fr_K f14 (fun t => q (by omega))]
      exact hA j (by omega)
theorem vc_52 (hT : vx_T 625 672 h) (hc : c < 61) (hm : m ≤ 4) (c42 : vx_J h 625 42 = c) (c50 : vx_J h 625 50 = (m : Nat)) : vx_CV d 52 [.ref 625] h (fun h1 => vx_fr (vu_Sl c) h h1 ∧ vx_J h1 636 c = vx_J h 625 57 ∧ vx_J h1 639 c = vx_J h 625 54 ∧ vx_J h1 640 c = vx_J h 625 55 ∧ vx_J h1 662 c = vx_J h 625 56 ∧ ∀ j, j < m → vx_J h1 637 (4 * c + j) = vx_J h 658 j ∧ vx_K h1 638 (4 * c + j) = vx_K h 659 j) := by
  refine vg_52 hT ?_
  rw [c42, Int.toNat_natCast]
  refine ⟨by omega, fun h2 e2 T2 => ?_⟩
  have f2 : vx_fr (fun a j => (a = 636 ∧ j = c) ∨ ((a = 637 ∨ a = 638) ∧ 4 * c ≤ j ∧ j < 4 * c + 4)) h h2 := vx_fr_sJ vx_fr_refl e2 (Or.inl ⟨rfl, rfl⟩)
  exact vc_52_15 hc hm c42 c50 m 0 h2 0 (by omega) (by omega) rfl T2 f2 (by rw [e2, vx_J_eq (vx_rI_J _ _ _)]) (fun j hj => absurd hj (by omega))
theorem vc_53_52 {f : Nat} {v1 : Int} {P : Int → ve_H → Prop} (hT : vx_T 625 672 h) (hm : m ≤ 4) (c50 : vx_J h 625 50 = (m : Nat)) (hf : f < 800) (hv : v1 = f) (N : ∀ v2 v3 : Option Value, ¬ vu_sm h f m → vx_W d 53 9 [some (.ref 625), some (.int (vx_i (v1 + 1))), v2, v3] [] h (vx_RI P)) (Y : vu_sm h f m → P v1 h) (e0 : vx_J h 648 f = vx_J h 625 57) : ∀ (n k : Nat) (z : Int), n = m - k → k ≤ m → z = k → (∀ j, j < k → vx_K h 649 (4 * f + j) = vx_K h 659 j) → vx_W d 53 52 [some (.ref 625), some (.int (vx_i v1)), some (.int (vx_i 1)), some (.int (vx_i z))] [] h (vx_RI P) := by
  intro n
  induction n with
  | zero =>
    intro k z hn hk hz hA
    refine vg_53_52 hT ?_
    rw [c50]
    have hkm : k = m := by omega
    exact ⟨by decide, fun q => absurd q (by decide), fun _ => ⟨by omega, fun _ => ⟨by omega, Y ⟨e0, fun j hj => hA j (by omega)⟩⟩, fun q => absurd q (by omega)⟩⟩
  | succ n ih =>
    intro k z hn hk hz hA
    refine vg_53_52 hT ?_
    rw [c50, show z.toNat = k by omega, show (4 * v1 + z).toNat = 4 * f + k by omega]
    refine ⟨by decide, fun q => absurd q (by decide), fun _ => ⟨by omega, fun q => absurd q (by omega), fun _ => ⟨by omega, by omega, fun q => ?_, fun q => ?_⟩⟩⟩
    · exact vg_53_52 hT ⟨by decide, fun _ => N _ _ (fun t => q (t.2 k (by omega))), fun q => absurd rfl q⟩
    · refine ih (k + 1) (z + 1) (by omega) (by omega) (by omega) (fun j hj => ?_)
      by_cases t : j = k
      · rw [t]; exact q
      · exact hA j (by omega)
theorem vc_53_9 {cnt : Nat} (hT : vx_T 625 672 h) (hsd : sd < 2) (hm : m ≤ 4) (hc : cnt ≤ 400) (c48 : vx_J h 625 48 = sd) (c50 : vx_J h 625 50 = (m : Nat)) (c47 : vx_J h 647 sd = (cnt : Nat)) : ∀ (n j : Nat) (z : Int) (v2 v3 : Option Value), n = cnt - j → j ≤ cnt → z = 400 * (sd : Int) + j → (∀ j', j' < j → ¬ vu_sm h (400 * sd + j') m) → vx_W d 53 9 [some (.ref 625), some (.int (vx_i z)), v2, v3] [] h (vx_RI (fun r h1 => h1 = h ∧ ((r = -1 ∧ ∀ j, j < cnt → ¬ vu_sm h (400 * sd + j) m) ∨ ∃ j, j < cnt ∧ r = ((400 * sd + j : Nat) : Int) ∧ vu_sm h (400 * sd + j) m ∧ ∀ j', j' < j → ¬ vu_sm h (400 * sd + j') m))) := by
  intro n
  induction n with
  | zero =>
    intro j z v2 v3 hn hj hz hA
    refine vg_53_9 hT ?_
    rw [c48, Int.toNat_natCast, c47]
    exact ⟨by omega, by omega, by omega, fun _ => ⟨rfl, Or.inl ⟨rfl, fun j' hj' => hA j' (by omega)⟩⟩, fun q => absurd q (by omega)⟩
  | succ n ih =>
    intro j z v2 v3 hn hj hz hA
    refine vg_53_9 hT ?_
    rw [c48, Int.toNat_natCast, c47, show z.toNat = 400 * sd + j by omega]
    refine ⟨by omega, by omega, by omega, fun q => absurd q (by omega), fun _ => ⟨by omega, fun q => ?_, fun q => ?_⟩⟩
    · refine vg_53_52 hT ⟨by decide, fun _ => ih (j + 1) (z + 1) _ _ (by omega) (by omega) (by omega) (fun j' hj' => ?_), fun q => absurd rfl q⟩
      by_cases t : j' = j
      · rw [t]; exact fun u => q u.1
      · exact hA j' (by omega)
    · refine vc_53_52 (f := 400 * sd + j) hT hm c50 (by omega) (by omega) (fun v2 v3 N => ih (j + 1) (z + 1) v2 v3 (by omega) (by omega) (by omega) (fun j' hj' => ?_)) (fun Y => ⟨rfl, Or.inr ⟨j, by omega, by omega, Y, hA⟩⟩) q m 0 0 (by omega) (by omega) rfl (fun j hj => absurd hj (by omega))
      by_cases t : j' = j
      · rw [t]; exact N
      · exact hA j' (by omega)
theorem vc_53 {cnt : Nat} (hT : vx_T 625 672 h) (hsd : sd < 2) (hm : m ≤ 4) (hc : cnt ≤ 400) (c48 : vx_J h 625 48 = sd) (c50 : vx_J h 625 50 = (m : Nat)) (c47 : vx_J h 647 sd = (cnt : Nat)) : vx_CI d 53 [.ref 625] h (fun r h1 => h1 = h ∧ ((r = -1 ∧ ∀ j, j < cnt → ¬ vu_sm h (400 * sd + j) m) ∨ ∃ j, j < cnt ∧ r = ((400 * sd + j : Nat) : Int) ∧ vu_sm h (400 * sd + j) m ∧ ∀ j', j' < j → ¬ vu_sm h (400 * sd + j') m)) := by
  refine vg_53 hT ?_
  rw [c48]
  exact vc_53_9 hT hsd hm hc c48 c50 c47 cnt 0 _ none none (by omega) (Nat.zero_le _) (by omega) (fun j hj => absurd hj (by omega))
theorem vc_54_31 {cnt f : Nat} {v1 : Int} (hsd : sd < 2) (hm : m ≤ 4) (hf : f < 800) (hv : v1 = f) (c48 : vx_J h 625 48 = sd) (c50 : vx_J h 625 50 = (m : Nat)) (c47 : vx_J h 647 sd = (cnt : Nat)) (hc : cnt ≤ 400) : ∀ (n k : Nat) (g : ve_H) (z : Int), n = m - k → k ≤ m → z = k → vx_T 625 672 g → vx_fr (fun a k => (a = 648 ∧ k = f) ∨ (a = 649 ∧ 4 * f ≤ k ∧ k < 4 * f + 4)) h g → vx_J g 648 f = vx_J h 625 57 → (∀ j, j < k → vx_K g 649 (4 * f + j) = vx_K h 659 j) → vx_W d 54 31 [some (.ref 625), some (.int (vx_i v1)), some (.int (vx_i z))] [] g (vx_RV (fun h1 => vx_fr (vu_Sa sd f) h h1 ∧ vx_J h1 647 sd = (cnt : Int) + 1 ∧ vx_J h1 648 f = vx_J h 625 57 ∧ ∀ j, j < m → vx_K h1 649 (4 * f + j) = vx_K h 659 j)) := by
  intro n
  induction n with
  | zero =>
    intro k g z hn hk hz hT fr e48 hA
    have d48 : vx_J g 625 48 = sd := (vx_fr_J fr (by simp)).trans c48
    have d50 : vx_J g 625 50 = (m : Nat) := (vx_fr_J fr (by simp)).trans c50
    have d47 : vx_J g 647 sd = (cnt : Nat) := (vx_fr_J fr (by simp)).trans c47
    refine vg_54_31 hT ?_
    rw [d48, d50, Int.toNat_natCast, d47]
    refine ⟨by omega, fun _ => ⟨by omega, by omega, fun h5 e5 T5 => ?_⟩, fun q => absurd q (by omega)⟩
    have f5 : vx_fr (fun a k => a = 647 ∧ k = sd) g h5 := vx_fr_sJ vx_fr_refl e5 ⟨rfl, rfl⟩
    refine ⟨vx_fr_trans (vx_fr_mono fr (fun a k q => Or.inr q)) (vx_fr_mono f5 (fun a k q => Or.inl q)), ?_, (vx_fr_J f5 (by simp)).trans e48, fun j hj => (vx_fr_K f5 (by simp)).trans (hA j (by omega))⟩
    rw [e5, vx_J_eq (by omega)]
  | succ n ih =>
    intro k g z hn hk hz hT fr e48 hA
    have d50 : vx_J g 625 50 = (m : Nat) := (vx_fr_J fr (by simp)).trans c50
    have d59 : vx_K g 659 k = vx_K h 659 k := vx_fr_K fr (by simp)
    refine vg_54_31 hT ?_
    rw [d50, show z.toNat = k by omega, show (4 * v1 + z).toNat = 4 * f + k by omega]
    refine ⟨by omega, fun q => absurd q (by omega), fun _ => ⟨by omega, by omega, fun h8 e8 T8 => ?_⟩⟩
    have f8 : vx_fr (fun a j => a = 649 ∧ j = 4 * f + k) g h8 := vx_fr_sK vx_fr_refl e8 ⟨rfl, rfl⟩
    refine ih (k + 1) h8 (z + 1) (by omega) (by omega) (by omega) T8 (vx_fr_trans fr (vx_fr_mono f8 (fun a k q => by omega))) ((vx_fr_J f8 (by simp)).trans e48) (fun j hj => ?_)
    by_cases q : j = k
    · rw [q, e8, vx_K_eq (vx_rL_K _ _ _), d59]
    · rw [vx_fr_K f8 (fun t => q (by omega))]
      exact hA j (by omega)
theorem vc_54 {cnt : Nat} (hT : vx_T 625 672 h) (hsd : sd < 2) (hm : m ≤ 4) (hc : cnt < 400) (c48 : vx_J h 625 48 = sd) (c50 : vx_J h 625 50 = (m : Nat)) (c47 : vx_J h 647 sd = (cnt : Nat)) : vx_CV d 54 [.ref 625] h (fun h1 => vx_fr (vu_Sa sd (400 * sd + cnt)) h h1 ∧ vx_J h1 647 sd = (cnt : Int) + 1 ∧ vx_J h1 648 (400 * sd + cnt) = vx_J h 625 57 ∧ ∀ j, j < m → vx_K h1 649 (4 * (400 * sd + cnt) + j) = vx_K h 659 j) := by
  refine vg_54 hT ?_
  rw [c48, Int.toNat_natCast, c47, show (400 * (sd : Int) + ((cnt : Nat) : Int)).toNat = 400 * sd + cnt by omega]
  refine ⟨by omega, by omega, fun h3 e3 T3 => ?_⟩
  have f3 : vx_fr (fun a k => (a = 648 ∧ k = 400 * sd + cnt) ∨ (a = 649 ∧ 4 * (400 * sd + cnt) ≤ k ∧ k < 4 * (400 * sd + cnt) + 4)) h h3 := vx_fr_sJ vx_fr_refl e3 (Or.inl ⟨rfl, rfl⟩)
  exact vc_54_31 hsd hm (by omega) (by omega) c48 c50 c47 (by omega) m 0 h3 0 (by omega) (Nat.zero_le _) rfl T3 f3 (by rw [e3, vx_J_eq (vx_rI_J _ _ _)]) (fun j hj => absurd hj (by omega))
end
