/-! Which variables are bound: the reference, all together -/
section
variable {d i cl sd l : Nat} {h h1 g : ve_H} {ts : vy_T} {V Pd : vy_V} {O : vy_O} {F : vy_F} {L : vy_L} {op : Bool} {x y : Int}
/-- what is told at the end -/
theorem vc_49_224 {v1 v2 v3 : Int} {h0 : ve_H} (hcl : cl < 61) (hV : V.1 ≤ 8) (c42 : vx_J h 625 42 = cl) (c642 : vx_J h 642 cl = V.1) (hP : ∀ v, v < V.1 → vx_J h 656 v = V.2.2 v) (F1 : F.1 ≠ 1) (f0 : vx_fr (fun a k => a = 657 ∨ vy_Sb a k) h0 h) (hs : ∀ v, v < V.1 → (vz_s L v = true ↔ vx_J h 657 v ≠ 0)) : ∀ (m n : Nat) (g : ve_H) (z : Int), m = V.1 - n → n ≤ V.1 → z = n → vx_T 625 672 g → vx_fr vy_Sb h g → vy_rf g (vz_un (vz_s L) V F n) → vx_W (d + 1) 49 224 [some (.ref 625), some (.int (vx_i v1)), some (.int (vx_i v2)), some (.int (vx_i v3)), some (.int (vx_i z))] [] g (vx_RV (fun h1 => vx_fr (fun a k => a = 657 ∨ vy_Sb a k) h0 h1 ∧ vy_rf h1 (vz_un (vz_s L) V F V.1))) := by
  intro m
  induction m with
  | zero =>
    intro n g z hm hn hz hT f C
    have e42 : vx_J g 625 42 = cl := (vx_fr_J f (by simp)).trans c42
    have e642 : vx_J g 642 cl = V.1 := (vx_fr_J f (by simp)).trans c642
    have e : n = V.1 := by omega
    refine vg_49_224 hT ?_
    rw [e42, Int.toNat_natCast, e642]
    refine ⟨by omega, by omega, fun _ => ⟨vx_fr_trans f0 (vx_fr_mono f (fun a k q => Or.inr q)), ?_⟩, fun q => absurd q (by omega)⟩
    rw [← e]; exact C
  | succ m ih =>
    intro n g z hm hn hz hT f C
    have e42 : vx_J g 625 42 = cl := (vx_fr_J f (by simp)).trans c42
    have e642 : vx_J g 642 cl = V.1 := (vx_fr_J f (by simp)).trans c642
    have e657 : vx_J g 657 n = vx_J h 657 n := vx_fr_J f (by simp)
    have e656 : vx_J g 656 n = V.2.2 n := (vx_fr_J f (by simp)).trans (hP n (by omega))
    have e0 : vz_un (vz_s L) V F (n + 1) = if vz_s L n = true then vz_un (vz_s L) V F n else vy_nt (vz_un (vz_s L) V F n) 3 (V.2.2 n) := rfl
    refine vg_49_224 hT ?_
    rw [e42, Int.toNat_natCast, e642, show z.toNat = n by omega, e657, e656]
    refine ⟨by omega, by omega, fun q => absurd q (by omega), fun _ => ⟨by omega, fun q => ih (n + 1) g (z + 1) (by omega) (by omega) (by omega) hT f ?_, fun q => ⟨by omega, ?_⟩⟩⟩
    · rw [e0, if_pos ((hs n (by omega)).mpr q)]; exact C
    · have hr : vx_rI (V.2.2 n) := by rw [← hP n (by omega)]; exact vx_rI_J _ _ _
      refine vx_CV_mono (vc_37 (k := 3) hT C (vz_un1 F1 n) (by decide) hr) ?_
      rintro h7 ⟨f7, C7⟩ T7
      refine ih (n + 1) h7 (z + 1) (by omega) (by omega) (by omega) T7 (vx_fr_trans f f7) ?_
      rw [e0, if_neg (fun t => ((hs n (by omega)).mp t) q)]
      exact C7
/-- passes until nothing more is bound -/
theorem vc_49_91 {v1 v2 : Int} {O1 : Int} {m : Nat} (hcl : cl < 61) (hV : V.1 ≤ 8) (R : vy_rl h cl Pd F L) (W : vz_wf O1 m L) (hv1 : v1 = 6 * (cl : Int)) (hv2 : v2 = 6 * (cl : Int) + L.1) (c42 : vx_J h 625 42 = cl) (c642 : vx_J h 642 cl = V.1) (hP : ∀ v, v < V.1 → vx_J h 656 v = V.2.2 v) (hF : vy_rf h F) (F1 : F.1 ≠ 1) : ∀ (n : Nat) (g : ve_H) (v4 : Option Value), 8 - vz_ct g < n → vx_T 625 672 g → vz_fz h g → (∀ i, i < 8 → vz_bs g i → vz_bd L i) → (∀ j, j < L.1 → L.2.1 j = 14 → ∀ i, vz_lv L j i → vz_bs g i) → vx_W (d + 1) 49 91 [some (.ref 625), some (.int (vx_i v1)), some (.int (vx_i v2)), some (.int (vx_i 1)), v4] [] g (vx_RV (fun h1 => vx_fr (fun a k => a = 657 ∨ vy_Sb a k) h h1 ∧ vy_rf h1 (vz_un (vz_s L) V F V.1))) := by
  have FIN : ∀ (g : ve_H) (v4 : Option Value), vx_T 625 672 g → vz_fz h g → (∀ i, i < 8 → vz_bs g i → vz_bd L i) → (∀ j, j < L.1 → L.2.1 j = 14 → ∀ i, vz_lv L j i → vz_bs g i) → (∀ j, j < L.1 → vz_cj L (vz_bs g) j) → vx_W (d + 1) 49 91 [some (.ref 625), some (.int (vx_i v1)), some (.int (vx_i v2)), some (.int (vx_i 0)), v4] [] g (vx_RV (fun h1 => vx_fr (fun a k => a = 657 ∨ vy_Sb a k) h h1 ∧ vy_rf h1 (vz_un (vz_s L) V F V.1))) := by
    intro g v4 hT f hsnd hat hcj
    refine vg_49_91 hT ⟨by decide, fun _ => ?_, fun q => absurd rfl q⟩
    have e42 : vx_J g 625 42 = cl := (vx_fr_J f (by simp)).trans c42
    have e642 : vx_J g 642 cl = V.1 := (vx_fr_J f (by simp)).trans c642
    refine vc_49_224 (h := g) (h0 := h) hcl hV e42 e642 (fun v hv => (vx_fr_J f (by simp)).trans (hP v hv)) F1 (vx_fr_mono f (fun a k q => Or.inl q)) (fun v hv => ?_) V.1 0 g 0 rfl (Nat.zero_le _) rfl hT vx_fr_refl ⟨(vx_fr_J f (by simp)).trans hF.1, (vx_fr_J f (by simp)).trans hF.2⟩
    rw [vz_s_iff]
    exact ⟨fun t => t (vz_bs g) (fun j hj => ⟨fun k14 i hi => hat j hj k14 i hi, (hcj j hj).1, (hcj j hj).2⟩), fun t => hsnd v (by omega) t⟩
  intro n
  induction n with
  | zero => intro g v4 hn; exact absurd hn (by omega)
  | succ n ih =>
    intro g v4 hn hT f hsnd hat
    refine vg_49_91 hT ⟨by decide, fun q => absurd q (by decide), fun _ => ?_⟩
    refine vc_49_100 (g0 := g) hcl R W hv2 (fun g' v3' v4' S => ?_) L.1 0 g 0 v1 rfl (Nat.zero_le _) (by omega) ⟨hT, f, hsnd, fun i _ t => t, Or.inl ⟨rfl, fun i _ t => t, fun j hj => absurd hj (by omega)⟩⟩
    obtain ⟨s1, s2, s3, s4, s5⟩ := S
    have hat' : ∀ j, j < L.1 → L.2.1 j = 14 → ∀ i, vz_lv L j i → vz_bs g' i := fun j hj k i hi => s4 i (by obtain ⟨_, _, t⟩ := hi; exact t.1) (hat j hj k i hi)
    rcases s5 with ⟨rfl, -, u⟩ | ⟨rfl, u⟩
    · exact FIN g' v4' s1 s2 s3 hat' u
    · have := vr_n_le (fun i => decide (vx_J g' 657 i ≠ 0)) 8
      have : vz_ct g' ≤ 8 := this
      exact ih g' v4' (by omega) s1 s2 s3 hat'
/-- the atoms' variables -/
theorem vc_49_60 {v1 v2 v3 : Int} {j m : Nat} {P : ve_H → Prop} {h0 : ve_H} (hl : 6 * cl + j < 366) (hv3 : v3 = ((6 * cl + j : Nat) : Int)) (hm : m ≤ 4) (c661 : vx_J h0 661 (6 * cl + j) = (m : Nat)) (hA : ∀ k, k < m → vy_tr (L.2.2.2.2 j k) (vx_J h0 645 (4 * (6 * cl + j) + k)) (vx_K h0 646 (4 * (6 * cl + j) + k)))
    (X : ∀ g v4, vx_T 625 672 g → vx_fr (fun a _ => a = 657) h0 g → (∀ i, i < 8 → (vz_bs g i ↔ (vz_bs h0 i ∨ ∃ k, k < m ∧ vz_v (L.2.2.2.2 j k) i))) → vx_W (d + 1) 49 43 [some (.ref 625), some (.int (vx_i v1)), some (.int (vx_i v2)), some (.int (vx_i (v3 + 1))), v4] [] g (vx_RV P)) :
    ∀ (n k : Nat) (g : ve_H) (z : Int), n = m - k → k ≤ m → z = k → vx_T 625 672 g → vx_fr (fun a _ => a = 657) h0 g → (∀ i, i < 8 → (vz_bs g i ↔ (vz_bs h0 i ∨ ∃ k', k' < k ∧ vz_v (L.2.2.2.2 j k') i))) → vx_W (d + 1) 49 60 [some (.ref 625), some (.int (vx_i v1)), some (.int (vx_i v2)), some (.int (vx_i v3)), some (.int (vx_i z))] [] g (vx_RV P) := by
  intro n
  induction n with
  | zero =>
    intro k g z hn hk hz hT f hb
    have e661 : vx_J g 661 (6 * cl + j) = (m : Nat) := (vx_fr_J f (by simp)).trans c661
    have ek : k = m := by omega
    refine vg_49_60 hT (vg_50 hT ?_)
    rw [show v3.toNat = 6 * cl + j by omega, e661]
    refine ⟨by omega, fun _ => ⟨by omega, fun _ => X g _ hT f (by rw [← ek]; exact hb), fun q => absurd q (by omega)⟩⟩
  | succ n ih =>
    intro k g z hn hk hz hT f hb
    have e661 : vx_J g 661 (6 * cl + j) = (m : Nat) := (vx_fr_J f (by simp)).trans c661
    refine vg_49_60 hT (vg_50 hT ?_)
    rw [show v3.toNat = 6 * cl + j by omega, e661]
    refine ⟨by omega, fun _ => ⟨by omega, fun q => absurd q (by omega), fun _ => vx_CV_mono (vc_48 (l := 6 * cl + j) (k := k) (t := L.2.2.2.2 j k) hT hl (by omega) hv3 hz ?_) ?_⟩⟩
    · rw [vx_fr_J f (by simp), vx_fr_K f (by simp)]; exact hA k (by omega)
    · rintro h4 ⟨f4, b4⟩ T4
      refine ih (k + 1) h4 (z + 1) (by omega) (by omega) (by omega) T4 (vx_fr_trans f f4) (fun i hi => ?_)
      rw [b4 i hi, hb i hi]
      constructor
      · rintro ((t | ⟨k', a1, a2⟩) | t)
        · exact Or.inl t
        · exact Or.inr ⟨k', by omega, a2⟩
        · exact Or.inr ⟨k, by omega, t⟩
      · rintro (t | ⟨k', a1, a2⟩)
        · exact Or.inl (Or.inl t)
        · by_cases q : k' = k
          · rw [q] at a2; exact Or.inr a2
          · exact Or.inl (Or.inr ⟨k', by omega, a2⟩)
theorem vc_49_43 {v1 v2 : Int} {P : ve_H → Prop} (hcl : cl < 61) (R : vy_rl h cl Pd F L) (hv2 : v2 = 6 * (cl : Int) + L.1)
    (X : ∀ g v4, vx_T 625 672 g → vz_fz h g → (∀ i, i < 8 → (vz_bs g i ↔ ∃ j, j < L.1 ∧ L.2.1 j = 14 ∧ vz_lv L j i)) → vx_W (d + 1) 49 91 [some (.ref 625), some (.int (vx_i v1)), some (.int (vx_i v2)), some (.int (vx_i 1)), v4] [] g (vx_RV P)) :
    ∀ (n j : Nat) (g : ve_H) (z : Int) (v4 : Option Value), n = L.1 - j → j ≤ L.1 → z = 6 * (cl : Int) + j → vx_T 625 672 g → vz_fz h g → (∀ i, i < 8 → (vz_bs g i ↔ ∃ j', j' < j ∧ L.2.1 j' = 14 ∧ vz_lv L j' i)) → vx_W (d + 1) 49 43 [some (.ref 625), some (.int (vx_i v1)), some (.int (vx_i v2)), some (.int (vx_i z)), v4] [] g (vx_RV P) := by
  have L6 := R.2.1
  intro n
  induction n with
  | zero =>
    intro j g z v4 hn hj hz hT f hb
    have e : j = L.1 := by omega
    subst e
    exact vg_49_43 hT ⟨by omega, by omega, fun _ => X g v4 hT f hb, fun q => absurd q (by omega)⟩
  | succ n ih =>
    intro j g z v4 hn hj hz hT f hb
    have hj1 : j < L.1 := by omega
    have Q0 := vz_rq_fz R f hj1
    have ez : z.toNat = 6 * cl + j := by omega
    refine vg_49_43 hT ?_
    rw [ez, Q0.2.1]
    refine ⟨by omega, by omega, fun q => absurd q (by omega), fun _ => ⟨by omega, fun q => ?_, fun q => ?_⟩⟩
    · have n14 : L.2.1 j ≠ 14 := fun t => q (by rw [t]; rfl)
      refine ih (j + 1) g (z + 1) v4 (by omega) (by omega) (by omega) hT f (fun i hi => (hb i hi).trans ⟨?_, ?_⟩)
      · rintro ⟨j', a1, a2⟩; exact ⟨j', by omega, a2⟩
      · rintro ⟨j', a1, a2⟩
        by_cases qj : j' = j
        · rw [qj] at a2; exact absurd a2.1 n14
        · exact ⟨j', by omega, a2⟩
    · have k14 : L.2.1 j = 14 := by
        by_cases t : L.2.1 j = 14
        · exact t
        · unfold vy_rk at q
          rw [if_neg t] at q
          split at q
          · omega
          split at q <;> omega
      obtain ⟨-, -, mm, m1, m2, m3, m4, -, -⟩ := Q0
      obtain ⟨b1, b2, -, -⟩ := m4 (Or.inl k14)
      clear m4
      refine vc_49_60 (h0 := g) (j := j) (m := mm) (by omega) (by omega) m1 b2 m2 (fun g' v4' T' f' hb' => ?_) mm 0 g 0 rfl (Nat.zero_le _) rfl hT vx_fr_refl (fun i hi => ⟨Or.inl, fun t => t.elim id (fun ⟨k, hk, _⟩ => absurd hk (by omega))⟩)
      refine ih (j + 1) g' (z + 1) v4' (by omega) (by omega) (by omega) T' (vx_fr_trans f f') (fun i hi => ?_)
      rw [hb' i hi, hb i hi]
      constructor
      · rintro (⟨j', a1, a2⟩ | ⟨k, a1, a2⟩)
        · exact ⟨j', by omega, a2⟩
        · exact ⟨j, by omega, k14, k, by omega, a2⟩
      · rintro ⟨j', a1, a2, k, hk, a3⟩
        by_cases qj : j' = j
        · rw [qj] at a3
          by_cases qk : k < mm
          · exact Or.inr ⟨k, qk, a3⟩
          · rw [m3 k (by omega) hk] at a3; exact absurd a3 vz_v0
        · exact Or.inl ⟨j', by omega, a2, k, hk, a3⟩
theorem vc_49_2 {P : ve_H → Prop} (hcl : cl < 61) (c42 : vx_J h 625 42 = cl) (c641 : vx_J h 641 cl = L.1)
    (X : ∀ g, vx_T 625 672 g → vz_fz h g → (∀ i, i < 8 → ¬ vz_bs g i) → vx_W (d + 1) 49 43 [some (.ref 625), some (.int (vx_i (6 * (cl : Int)))), some (.int (vx_i (6 * (cl : Int) + L.1))), some (.int (vx_i (6 * (cl : Int)))), none] [] g (vx_RV P)) :
    ∀ (n k : Nat) (g : ve_H) (z : Int), n = 9 - k → k ≤ 9 → z = k → vx_T 625 672 g → vz_fz h g → (∀ i, i < k → ¬ vz_bs g i) → vx_W (d + 1) 49 2 [some (.ref 625), some (.int (vx_i z)), none, none, none] [] g (vx_RV P) := by
  intro n
  induction n with
  | zero =>
    intro k g z hn hk hz hT f hb
    have e42 : vx_J g 625 42 = cl := (vx_fr_J f (by simp)).trans c42
    have e641 : vx_J g 641 cl = L.1 := (vx_fr_J f (by simp)).trans c641
    refine vg_49_2 hT ?_
    rw [e42, Int.toNat_natCast, e641]
    exact ⟨by omega, fun _ => ⟨by omega, X g hT f (fun i hi => hb i (by omega))⟩, fun q => absurd q (by omega)⟩
  | succ n ih =>
    intro k g z hn hk hz hT f hb
    refine vg_49_2 hT ⟨by omega, fun q => absurd q (by omega), fun _ => ⟨by omega, fun h5 e5 T5 => ?_⟩⟩
    rw [show z.toNat = k by omega] at e5
    refine ih (k + 1) h5 (z + 1) (by omega) (by omega) (by omega) T5 (vx_fr_sJ f e5 rfl) (fun i hi => ?_)
    unfold vz_bs
    rw [e5, vx_J_sJ (by decide)]
    by_cases q : i = k
    · rw [if_pos ⟨rfl, q⟩]; exact fun t => t rfl
    · rw [if_neg (fun t => q t.2)]; exact hb i (by omega)
theorem vc_49 {O1 : Int} {m : Nat} (hT : vx_T 625 672 h) (B : vy_rb h ts cl i V) (R : vy_rl h cl Pd F L) (W : vz_wf O1 m L) (hF : vy_rf h F) (F1 : F.1 ≠ 1) : vx_CV (d + 1) 49 [.ref 625] h (fun h1 => vx_fr (fun a k => a = 657 ∨ vy_Sb a k) h h1 ∧ vy_rf h1 (vz_un (vz_s L) V F V.1)) := by
  obtain ⟨-, -, -, c42, hcl, c642, hV, hN⟩ := B
  refine vg_49 hT (vc_49_2 hcl c42 R.1 (fun g Tg fg ng => ?_) 9 0 h 0 rfl (by omega) rfl hT vx_fr_refl (fun i hi => absurd hi (by omega)))
  refine vc_49_43 (h := h) hcl R rfl (fun g1 v4 T1 f1 b1 => ?_) L.1 0 g _ none rfl (Nat.zero_le _) (by omega) Tg fg (fun i hi => ⟨fun t => absurd t (ng i hi), fun ⟨j, hj, _⟩ => absurd hj (by omega)⟩)
  refine vc_49_91 (h := h) hcl hV R W rfl rfl c42 c642 (fun v hv => (hN v hv).2.2) hF F1 9 g1 v4 (by omega) T1 f1 (fun i hi t U hU => ?_) (fun j hj k14 i hi => ?_)
  · obtain ⟨j, hj, k14, hv⟩ := (b1 i hi).mp t
    exact (hU j hj).1 k14 i hv
  · exact (b1 i (by obtain ⟨_, _, t⟩ := hi; exact t.1)).mpr ⟨j, hj, k14, hi⟩
end
