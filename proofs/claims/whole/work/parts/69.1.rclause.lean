/-! Clauses of the reference: rules and facts as they stand -/
def vu_mo (Pd : vy_V) (F : vy_F) (Pd' : vy_V) (F' : vy_F) : Prop := (F'.1 = 0 → F.1 = 0) ∧ ∀ p, p < Pd.1 → p < Pd'.1 ∧ Pd'.2.2 p = Pd.2.2 p
/-- a rule of the reference -/
def vu_rr (h : ve_H) (c : Nat) (Pd : vy_V) (F : vy_F) (R : vu_R) : Prop := vx_J h 642 c = R.2.2.2.1 ∧ vy_rl h c Pd F R.2.2.2.2 ∧ vx_J h 639 c = (if R.2.2.1.1 = -1 then 0 else R.2.2.1.1 - 4) ∧ (R.2.2.1.1 ≠ -1 → vx_J h 640 c = R.2.2.1.2.1 ∧ vx_J h 662 c = R.2.2.1.2.2) ∧ vx_J h 636 c = R.1 ∧ ∃ m : Nat, m ≤ 4 ∧ (∀ k, k < m → vy_tr (R.2.1 k) (vx_J h 637 (4 * c + k)) (vx_K h 638 (4 * c + k))) ∧ (∀ k, m ≤ k → R.2.1 k = 0) ∧ (F.1 = 0 → ∃ p : Nat, p < Pd.1 ∧ R.1 = p ∧ Pd.2.2 p = m)
/-- a fact of the reference -/
def vu_rf (h : ve_H) (f : Nat) (Pd : vy_V) (r : Nat → Int) : Prop := ∃ p m : Nat, p < Pd.1 ∧ Pd.2.2 p = m ∧ m ≤ 4 ∧ r 0 = p ∧ vx_J h 648 f = p ∧ (∀ k, k < m → vy_vr (r (k + 1)) (vx_K h 649 (4 * f + k))) ∧ ∀ k, m ≤ k → r (k + 1) = 0
def vu_rF (h : ve_H) (sd i : Nat) (Pd : vy_V) (F : vy_F) (cnt : Nat) (rr : Nat → Nat → Int) : Prop := ∃ c : Nat, vx_J h 647 sd = c ∧ 5 * c ≤ i ∧ (F.1 = 0 → c = cnt ∧ ∀ j, j < cnt → vu_rf h (400 * sd + j) Pd (rr j))
/-- the reference between two clauses -/
def vu_rS (h : ve_H) (ts : vy_T) (sd i : Nat) (Pd : vy_V) (F : vy_F) (n : Nat) (RR : Nat → vu_R) (cnt : Nat) (rr : Nat → Nat → Int) : Prop := vt_kr h 0 ts ∧ vx_J h 625 10 = i ∧ i < ts.length ∧ vx_J h 625 48 = sd ∧ vx_J h 625 49 = 1 ∧ vy_rp h sd Pd ∧ vy_rf h F ∧ F.1 ≠ 1 ∧ vx_J h 635 sd = n ∧ n ≤ 30 ∧ (∀ r, r < n → vu_rr h (30 * sd + r) Pd F (RR r)) ∧ vu_rF h sd i Pd F cnt rr
/-- what a clause's reading touches, facts aside -/
abbrev vu_Sf (c sd a k : Nat) : Prop := vy_Sz c sd a k ∨ vu_Sb c a k ∨ vu_Sl c a k ∨ a = 657
abbrev vu_Sk (sd a k : Nat) : Prop := (a = 625 ∧ k ≠ 0 ∧ k ≠ 1 ∧ k ≠ 2 ∧ k ≠ 5 ∧ k ≠ 11 ∧ k ≠ 48 ∧ k ≠ 49 ∧ (k < 12 ∨ 40 ≤ k)) ∨ (655 ≤ a ∧ a ≤ 659) ∨ ((a = 631 ∨ a = 635 ∨ a = 647) ∧ k = sd) ∨ ((a = 632 ∨ a = 633) ∧ 16 * sd ≤ k ∧ k < 16 * sd + 16) ∨ ((a = 636 ∨ a = 639 ∨ a = 640 ∨ a = 641 ∨ a = 642 ∨ a = 662) ∧ ((30 * sd ≤ k ∧ k < 30 * sd + 30) ∨ k = 60)) ∨ ((a = 637 ∨ a = 638) ∧ ((120 * sd ≤ k ∧ k < 120 * sd + 120) ∨ 240 ≤ k)) ∨ ((a = 643 ∨ a = 644 ∨ a = 660 ∨ a = 661) ∧ ((180 * sd ≤ k ∧ k < 180 * sd + 180) ∨ 360 ≤ k)) ∨ ((a = 645 ∨ a = 646) ∧ ((720 * sd ≤ k ∧ k < 720 * sd + 720) ∨ 1440 ≤ k)) ∨ (a = 648 ∧ 400 * sd ≤ k ∧ k < 400 * sd + 400) ∨ (a = 649 ∧ 1600 * sd ≤ k ∧ k < 1600 * sd + 1600)
theorem vu_mo_refl {Pd : vy_V} {F : vy_F} : vu_mo Pd F Pd F := ⟨id, fun p hp => ⟨hp, rfl⟩⟩
theorem vu_mo_trans {Pd Pd1 Pd2 : vy_V} {F F1 F2 : vy_F} (a : vu_mo Pd F Pd1 F1) (b : vu_mo Pd1 F1 Pd2 F2) : vu_mo Pd F Pd2 F2 := ⟨fun t => a.1 (b.1 t), fun p hp => ⟨(b.2 p (a.2 p hp).1).1, (b.2 p (a.2 p hp).1).2.trans (a.2 p hp).2⟩⟩
section
variable {d i c sd n m : Nat} {h h1 g : ve_H} {ts : vy_T} {V Pd Pd' : vy_V} {O : vy_O} {F F' : vy_F} {L : vy_L} {op : Bool} {x y : Int} {R : vu_R}
theorem vy_am_m {hd any : Bool} {q : Nat × vy_V × vy_O × (Nat → Int) × Nat × Int × vy_V × vy_F} (e : vy_am ts op hd any i V O Pd F = .inr q) : vu_mo Pd F q.2.2.2.2.2.2.1 q.2.2.2.2.2.2.2 := ⟨(vy_am_w e).2.2.1, (vy_am_w e).2.2.2.1⟩
theorem vy_am_op {hd any : Bool} {q : Nat × vy_V × vy_O × (Nat → Int) × Nat × Int × vy_V × vy_F} (e : vy_am ts true hd any i V O Pd F = .inr q) : q.2.2.2.2.2.1 ≠ -1 := by
  unfold vy_am at e
  split at e
  · cases e
  split at e
  · cases e
  split at e
  · cases e
  split at e
  · cases e
  split at e
  · cases e
  split at e
  · cases e; show ((vy_vx Pd (vy_v ts i) : Nat) : Int) ≠ -1; omega
  split at e
  · cases e; show ((Pd.1 : Nat) : Int) ≠ -1; omega
  · rename_i t; exact absurd rfl t
theorem vy_li_m {q : Nat × vy_V × vy_V × vy_F × vy_L × Nat} {at_ : Nat} (e : vy_li ts op i V O Pd F L at_ = .inr q) : vu_mo Pd F q.2.2.1 q.2.2.2.1 := by
  unfold vy_li at e
  split at e
  · split at e
    · cases e
    rename_i u hu
    cases e; exact vy_am_m hu
  split at e
  · split at e
    · cases e
    split at e
    · cases e
    rename_i u hu
    cases e; exact vy_am_m hu
  · split at e
    · cases e
    · cases e; exact vu_mo_refl
theorem vy_bo_m : ∀ (m i : Nat) (V Pd : vy_V) (F : vy_F) (L : vy_L) (at_ : Nat) {q : Nat × vy_V × vy_V × vy_F × vy_L × Nat}, vy_bo ts op O m i V Pd F L at_ = .inr q → vu_mo Pd F q.2.2.1 q.2.2.2.1
  | 0, i, V, Pd, F, L, at_, q, e => by cases e
  | m + 1, i, V, Pd, F, L, at_, q, e => by
    unfold vy_bo at e
    split at e
    · cases e
    rename_i u hu
    have := vy_li_m hu
    split at e
    · exact vu_mo_trans this (vy_bo_m m _ _ _ _ _ _ e)
    · cases e; exact this
theorem vz_un_0 {s : Nat → Bool} : ∀ n, (vz_un s V F n).1 = 0 → F.1 = 0 ∧ ∀ v, v < n → s v = true
  | 0, e => ⟨e, fun v hv => absurd hv (by omega)⟩
  | n + 1, e => by
    unfold vz_un at e
    split at e
    · rename_i q
      have ih := vz_un_0 n e
      refine ⟨ih.1, fun v hv => ?_⟩
      by_cases t : v = n
      · rw [t]; exact q
      · exact ih.2 v (by omega)
    · exfalso
      unfold vy_nt at e
      split at e
      · exact absurd (show (3 : Int) = 0 from e) (by decide)
      · rename_i q; exact q (Or.inl e)
theorem vy_rp_fr {S : Nat → Nat → Prop} (b : vy_rp h sd Pd) (f : vx_fr S h h1) (hs : ¬ S 631 sd ∧ ∀ k, 16 * sd ≤ k → k < 16 * sd + 16 → ¬ S 632 k ∧ ¬ S 633 k) : vy_rp h1 sd Pd :=
  ⟨b.1, (vx_fr_J f hs.1).trans b.2.1, b.2.2.1, fun p hp => by
    have hh := hs.2 (16 * sd + p) (by omega) (by have := b.2.2.1; omega)
    rw [vx_fr_K f hh.1, vx_fr_J f hh.2]; exact b.2.2.2 p hp⟩
theorem vy_rl_fr {S : Nat → Nat → Prop} (b : vy_rl h c Pd F L) (f : vx_fr S h h1) (hs : ¬ S 641 c ∧ (∀ l, 6 * c ≤ l → l < 6 * c + 6 → ¬ S 660 l ∧ ¬ S 643 l ∧ ¬ S 661 l ∧ ¬ S 644 l) ∧ ∀ k, 24 * c ≤ k → k < 24 * c + 24 → ¬ S 645 k ∧ ¬ S 646 k) : vy_rl h1 c Pd F L := by
  obtain ⟨b1, b2, b3⟩ := b
  refine ⟨(vx_fr_J f hs.1).trans b1, b2, fun i hi => ?_⟩
  obtain ⟨a1, a2, a3, a4⟩ := hs.2.1 (6 * c + i) (by omega) (by omega)
  exact vy_rq_fr (b3 i hi) f ⟨a1, a2, a3, a4, fun k hk => hs.2.2 _ (by omega) (by omega)⟩
theorem vu_rr_mono (b : vu_rr h c Pd F R) (M : vu_mo Pd F Pd' F') : vu_rr h c Pd' F' R := by
  obtain ⟨b1, b2, b3, b4, b5, m, b6, b7, b8, b9⟩ := b
  refine ⟨b1, ⟨b2.1, b2.2.1, fun i hi => vy_rq_mono (b2.2.2 i hi) M.1 M.2⟩, b3, b4, b5, m, b6, b7, b8, fun t => ?_⟩
  obtain ⟨p, p1, p2, p3⟩ := b9 (M.1 t)
  exact ⟨p, (M.2 p p1).1, p2, (M.2 p p1).2.trans p3⟩
theorem vu_rr_fr {S : Nat → Nat → Prop} (b : vu_rr h c Pd F R) (f : vx_fr S h h1) (h1' : ∀ a, (a = 636 ∨ a = 639 ∨ a = 640 ∨ a = 641 ∨ a = 642 ∨ a = 662) → ¬ S a c) (h2 : ∀ k, 4 * c ≤ k → k < 4 * c + 4 → ¬ S 637 k ∧ ¬ S 638 k) (h3 : ∀ l, 6 * c ≤ l → l < 6 * c + 6 → ¬ S 660 l ∧ ¬ S 643 l ∧ ¬ S 661 l ∧ ¬ S 644 l) (h4 : ∀ k, 24 * c ≤ k → k < 24 * c + 24 → ¬ S 645 k ∧ ¬ S 646 k) : vu_rr h1 c Pd F R := by
  obtain ⟨b1, b2, b3, b4, b5, m, b6, b7, b8, b9⟩ := b
  refine ⟨(vx_fr_J f (h1' 642 (by simp))).trans b1, vy_rl_fr b2 f ⟨h1' 641 (by simp), h3, h4⟩, (vx_fr_J f (h1' 639 (by simp))).trans b3, fun t => ⟨(vx_fr_J f (h1' 640 (by simp))).trans (b4 t).1, (vx_fr_J f (h1' 662 (by simp))).trans (b4 t).2⟩, (vx_fr_J f (h1' 636 (by simp))).trans b5, m, b6, fun k hk => ?_, b8, b9⟩
  obtain ⟨a1, a2⟩ := h2 (4 * c + k) (by omega) (by omega)
  rw [vx_fr_J f a1, vx_fr_K f a2]
  exact b7 k hk
theorem vu_rf_fr {S : Nat → Nat → Prop} {f : Nat} {r : Nat → Int} (b : vu_rf h f Pd r) (fr : vx_fr S h h1) (hs : ¬ S 648 f ∧ ∀ k, 4 * f ≤ k → k < 4 * f + 4 → ¬ S 649 k) : vu_rf h1 f Pd r := by
  obtain ⟨p, m, b1, b2, b3, b4, b5, b6, b7⟩ := b
  refine ⟨p, m, b1, b2, b3, b4, (vx_fr_J fr hs.1).trans b5, fun k hk => ?_, b7⟩
  rw [vx_fr_K fr (hs.2 _ (by omega) (by omega))]
  exact b6 k hk
theorem vu_rf_mono {f : Nat} {r : Nat → Int} (b : vu_rf h f Pd r) (M : ∀ p, p < Pd.1 → p < Pd'.1 ∧ Pd'.2.2 p = Pd.2.2 p) : vu_rf h f Pd' r := by
  obtain ⟨p, m, b1, b2, b3⟩ := b
  exact ⟨p, m, (M p b1).1, (M p b1).2.trans b2, b3⟩
theorem vy_vr_inj {t v t' v' : Int} (a : vy_vr t v) (b : vy_vr t' v') : t = t' ↔ v = v' := by
  rcases a with ⟨a1, a2, a3⟩ | ⟨u, hu, a1, a2⟩
  · rcases b with ⟨b1, b2, b3⟩ | ⟨w, hw, b1, b2⟩
    · omega
    · have := vt_lf_r hw
      have := hw.1
      omega
  · have r1 := vt_lf_r hu
    have r2 := hu.1
    rcases b with ⟨b1, b2, b3⟩ | ⟨w, hw, b1, b2⟩
    · omega
    · refine ⟨fun t => ?_, fun t => ?_⟩
      · have : u = w := vt_lf_inj hu hw (by omega)
        omega
      · have : u = w := by omega
        rw [a2, b2, this]
theorem vu_sm_iff {f p : Nat} {A : Nat → Int} {r : Nat → Int} (b : vu_rf h f Pd r) (hp : p < Pd.1) (hm : Pd.2.2 p = m) (h57 : vx_J h 625 57 = p) (hA : ∀ k, k < m → vy_vr (A k) (vx_K h 659 k)) (h0 : ∀ k, m ≤ k → A k = 0) (hm4 : m ≤ 4) : vu_sm h f m ↔ vr_eq 5 r (vu_row p A) := by
  obtain ⟨p', m', b1, b2, b3, b4, b5, b6, b7⟩ := b
  unfold vu_sm
  rw [b5, h57]
  constructor
  · rintro ⟨e1, e2⟩ k hk
    have ep : p' = p := by omega
    have em : m' = m := by rw [ep] at b2; omega
    rw [em] at b6 b7
    cases k with
    | zero => rw [b4, ep]; rfl
    | succ k =>
      show r (k + 1) = A k
      by_cases q : k < m
      · exact (vy_vr_inj (b6 k q) (hA k q)).mpr (e2 k q)
      · rw [b7 k (by omega), h0 k (by omega)]
  · intro e
    have e0 := e 0 (by omega)
    rw [b4] at e0
    have ep : p' = p := by have : (p' : Int) = (p : Int) := e0; omega
    have em : m' = m := by rw [ep] at b2; omega
    rw [em] at b6
    exact ⟨e0, fun k hk => (vy_vr_inj (b6 k hk) (hA k hk)).mp (e (k + 1) (by omega))⟩
end
