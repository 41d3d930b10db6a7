/-! type: what the class's tape and the reference's do -/
def vc_ok (w n len : Int) : Prop := (1 ≤ n ∧ n ≤ 8 ∧ len + n ≤ 600) ∧ ∀ j : Nat, (j : Int) < n → 32 ≤ vx_by w j ∧ vx_by w j ≤ 126
def vc_tP (la lk ta : Nat) (S : Nat → Nat → Prop) (w n len : Int) (h0 : ve_H) (r : Int) (h1 : ve_H) : Prop := vx_fr S h0 h1 ∧ ((r = 1 ∧ vc_ok w n len ∧ vx_J h1 la lk = len + n ∧ ∀ j : Nat, (j : Int) < n → vx_J h1 ta (len.toNat + j) = vx_by w (n - 1 - j).toNat) ∨ (r = 0 ∧ ¬ vc_ok w n len ∧ vx_J h1 la lk = len))
abbrev vc_tS (len : Int) (a k : Nat) : Prop := (a = 2 ∧ k = 4) ∨ (a = 3 ∧ len.toNat ≤ k)
abbrev vc_tR (len : Int) (a k : Nat) : Prop := (a = 625 ∧ (k = 0 ∨ k = 2)) ∨ (a = 626 ∧ len.toNat ≤ k)
theorem vc_192_28 {d : Nat} {w n len : Int} {h0 : ve_H} (hw : vx_rL w) (hn : 1 ≤ n ∧ n ≤ 8) (hl : 0 ≤ len ∧ len + n ≤ 600) : ∀ (m : Nat) (i : Int) (h : ve_H) (v5 : Option Value), n - i = m → 0 ≤ i → vx_T 1 625 h → vx_J h 2 4 = len → vx_fr (vc_tS len) h0 h →
    (∀ j : Nat, (j : Int) < i → 32 ≤ vx_by w (n - 1 - j).toNat ∧ vx_by w (n - 1 - j).toNat ≤ 126) → (∀ j : Nat, (j : Int) < i → vx_J h 3 (len.toNat + j) = vx_by w (n - 1 - j).toNat) →
    vx_W d 192 28 [some (.ref 2), some (.long (vx_l w)), none, some (.int (vx_i n)), some (.int (vx_i i)), v5] [] h (vx_RI (vc_tP 2 4 3 (vc_tS len) w n len h0)) := by
  intro m
  induction m with
  | zero =>
    intro i h v5 hm hi hT hJ hf hb ht
    refine vg_192_28 hT ⟨by omega, by omega, fun _ h4 e T4 => ?_, fun q => absurd q (by omega)⟩
    refine ⟨vx_fr_sJ hf e (Or.inl ⟨rfl, rfl⟩), Or.inl ⟨rfl, ⟨⟨hn.1, hn.2, hl.2⟩, fun j hj => ?_⟩, ?_, fun j hj => ?_⟩⟩
    · have := hb (n - 1 - j).toNat (by omega)
      rwa [show (n - 1 - ((n - 1 - (j : Int)).toNat : Int)).toNat = j by omega] at this
    · rw [vx_Jsm e (by omega), hJ]
    · subst e
      rw [vx_J_ne (by omega)]
      exact ht j (by omega)
  | succ m ih =>
    intro i h v5 hm hi hT hJ hf hb ht
    have hby := vx_by_c hw (j := n - 1 - i) (by omega)
    have hbr := vx_by_r w (n - 1 - i).toNat
    refine vg_192_28 hT ⟨by omega, by omega, fun q => absurd q (by omega), fun _ => ?_⟩
    rw [hby, hJ]
    refine ⟨fun q => ⟨hf, Or.inr ⟨rfl, fun ok => ?_, hJ⟩⟩, fun q1 => ⟨fun q2 => ⟨by omega, by omega, by omega, fun h10 e T => ?_⟩, fun q => ⟨hf, Or.inr ⟨rfl, fun ok => ?_, hJ⟩⟩⟩⟩
    · have := ok.2 (n - 1 - i).toNat (by omega)
      omega
    · refine ih (i + 1) h10 _ (by omega) (by omega) T ?_ (vx_fr_sJ hf e (Or.inr ⟨rfl, by omega⟩)) (fun j hj => ?_) (fun j hj => ?_)
      · subst e
        rw [vx_J_ne (by omega), hJ]
      · by_cases hji : (j : Int) < i
        · exact hb j hji
        · rw [show (n - 1 - (j : Int)).toNat = (n - 1 - i).toNat by omega]
          exact ⟨q1, q2⟩
      · subst e
        by_cases hji : (j : Int) < i
        · rw [vx_J_ne (by omega)]
          exact ht j hji
        · rw [vx_J_sJ (by omega), if_pos ⟨rfl, by omega⟩, show (n - 1 - (j : Int)).toNat = (n - 1 - i).toNat by omega]
    · have := ok.2 (n - 1 - i).toNat (by omega)
      omega
theorem vc_192 {d : Nat} {w n len : Int} {h : ve_H} (hw : vx_rL w) (hn : vx_rI n) (hl : 0 ≤ len ∧ len ≤ 600) (hT : vx_T 1 625 h) (hJ : vx_J h 2 4 = len) :
    vx_CI d 192 [.ref 2, .long (vx_l w), .int (vx_i n)] h (vc_tP 2 4 3 (vc_tS len) w n len h) := by
  refine vg_192 hT ⟨hn, fun q => ⟨vx_fr_refl, Or.inr ⟨rfl, fun ok => ?_, hJ⟩⟩, fun q1 => ⟨fun q => ⟨vx_fr_refl, Or.inr ⟨rfl, fun ok => ?_, hJ⟩⟩, fun q2 => ?_⟩⟩
  · have := ok.1; omega
  · have := ok.1; omega
  · rw [hJ]
    refine ⟨by omega, fun q => ?_, fun q => ⟨vx_fr_refl, Or.inr ⟨rfl, fun ok => ?_, hJ⟩⟩⟩
    · exact vc_192_28 hw ⟨q1, q2⟩ ⟨hl.1, q⟩ n.toNat 0 h none (by omega) (by omega) hT hJ vx_fr_refl (fun j hj => by omega) (fun j hj => by omega)
    · have := ok.1; omega
theorem vc_1 {d : Nat} {w n len : Int} {h : ve_H} (hw : vx_rL w) (hn : vx_rI n) (hl : 0 ≤ len ∧ len ≤ 600) (hT : vx_T 1 625 h) (hJ : vx_J h 2 4 = len) :
    vx_CI (d + 1) 1 [.ref 1, .long (vx_l w), .int (vx_i n)] h (vc_tP 2 4 3 (vc_tS len) w n len h) :=
  vg_1 hT (vx_CI_mono (vc_192 hw hn hl hT hJ) (fun _ _ _ p _ => ⟨p.2.elim (fun q => Or.inr q.1) (fun q => Or.inl q.1), p⟩))
/-- the reference writes at the end alone -/
theorem vc_21_80 {d : Nat} {w n len : Int} {h0 : ve_H} (hw : vx_rL w) (hl : 0 ≤ len ∧ len + n ≤ 600) (ok : vc_ok w n len) : ∀ (m : Nat) (i : Int) (h : ve_H) (v5 : Option Value), i + 1 = m → i < n → vx_T 625 672 h → vx_J h 625 2 = len + (n - 1 - i) → vx_fr (vc_tR len) h0 h →
    (∀ j : Nat, (j : Int) < n - 1 - i → vx_J h 626 (len.toNat + j) = vx_by w (n - 1 - j).toNat) →
    vx_W d 21 80 [some (.ref 625), some (.long (vx_l w)), none, some (.int (vx_i n)), some (.int (vx_i i)), v5] [] h (vx_RI (vc_tP 625 2 626 (vc_tR len) w n len h0)) := by
  have hn := ok.1
  intro m
  induction m with
  | zero =>
    intro i h v5 hm hi hT hJ hf ht
    refine vg_21_80 hT ⟨by omega, fun _ => ⟨hf, Or.inl ⟨rfl, ok, by omega, fun j hj => ht j (by omega)⟩⟩, fun q => absurd q (by omega)⟩
  | succ m ih =>
    intro i h v5 hm hi hT hJ hf ht
    have hby := vx_by_l hw (j := i) (by omega)
    have hbr := vx_by_r w i.toNat
    refine vg_21_80 hT ⟨by omega, fun q => absurd q (by omega), fun _ => ?_⟩
    rw [hby, hJ]
    refine ⟨by omega, fun h4 e4 T4 h5 e5 T5 => ?_⟩
    have f4 := vx_fr_sJ hf e4 (Or.inr ⟨rfl, by omega⟩)
    have f5 := vx_fr_sJ f4 e5 (Or.inl ⟨rfl, Or.inr rfl⟩)
    have j4 : vx_J h4 625 2 = len + (n - 1 - i) := by
      subst e4
      rw [vx_J_ne (by omega), hJ]
    rw [j4] at e5
    refine ih (i + (-1)) h5 _ (by omega) (by omega) T5 ?_ f5 (fun j hj => ?_)
    · subst e5
      rw [vx_J_eq (by omega)]
      omega
    · subst e5 e4
      rw [vx_J_ne (by omega)]
      by_cases hji : (j : Int) < n - 1 - i
      · rw [vx_J_ne (by omega)]
        exact ht j hji
      · rw [vx_J_sJ (by omega), if_pos ⟨rfl, by omega⟩, show (n - 1 - (j : Int)).toNat = i.toNat by omega]
theorem vc_21_33 {d : Nat} {w n len : Int} {h0 : ve_H} (hw : vx_rL w) (hn : 1 ≤ n ∧ n ≤ 8) (hl : 0 ≤ len ∧ len + n ≤ 600) : ∀ (m : Nat) (i : Int) (h : ve_H) (v5 : Option Value), n - i = m → 0 ≤ i → vx_T 625 672 h → vx_J h 625 2 = len → vx_fr (vc_tR len) h0 h →
    (∀ j : Nat, (j : Int) < i → 32 ≤ vx_by w j ∧ vx_by w j ≤ 126) →
    vx_W d 21 33 [some (.ref 625), some (.long (vx_l w)), none, some (.int (vx_i n)), some (.int (vx_i i)), v5] [] h (vx_RI (vc_tP 625 2 626 (vc_tR len) w n len h0)) := by
  intro m
  induction m with
  | zero =>
    intro i h v5 hm hi hT hJ hf hb
    refine vg_21_33 hT ⟨by omega, by omega, fun _ => ?_, fun q => absurd q (by omega)⟩
    exact vc_21_80 hw hl ⟨⟨hn.1, hn.2, hl.2⟩, fun j hj => hb j (by omega)⟩ n.toNat (n - 1) h _ (by omega) (by omega) hT (by omega) hf (fun j hj => by omega)
  | succ m ih =>
    intro i h v5 hm hi hT hJ hf hb
    have hby := vx_by_l hw (j := i) (by omega)
    have hbr := vx_by_r w i.toNat
    refine vg_21_33 hT ⟨by omega, by omega, fun q => absurd q (by omega), fun _ => ?_⟩
    rw [hby]
    refine ⟨by omega, fun q => ⟨hf, Or.inr ⟨rfl, fun ok => ?_, hJ⟩⟩, fun q1 => ⟨fun q2 => ?_, fun q => ⟨hf, Or.inr ⟨rfl, fun ok => ?_, hJ⟩⟩⟩⟩
    · have := ok.2 i.toNat (by omega)
      omega
    · refine ih (i + 1) h _ (by omega) (by omega) hT hJ hf (fun j hj => ?_)
      by_cases hji : (j : Int) < i
      · exact hb j hji
      · rw [show j = i.toNat by omega]
        exact ⟨q1, q2⟩
    · have := ok.2 i.toNat (by omega)
      omega
theorem vc_21 {d : Nat} {w n len : Int} {h : ve_H} (hw : vx_rL w) (hn : vx_rI n) (hl : 0 ≤ len ∧ len ≤ 600) (hT : vx_T 625 672 h) (hJ : vx_J h 625 2 = len) :
    vx_CI d 21 [.ref 625, .long (vx_l w), .int (vx_i n)] h (vc_tP 625 2 626 (vc_tR len) w n len h) := by
  refine vg_21 hT (fun h1 e T1 => ?_)
  have f1 : vx_fr (vc_tR len) h h1 := vx_fr_sJ vx_fr_refl e (Or.inl ⟨rfl, Or.inl rfl⟩)
  have j1 : vx_J h1 625 2 = len := by
    subst e
    rw [vx_J_ne (by omega), hJ]
  refine ⟨hn, fun q => ⟨f1, Or.inr ⟨rfl, fun ok => ?_, j1⟩⟩, fun q1 => ⟨fun q => ⟨f1, Or.inr ⟨rfl, fun ok => ?_, j1⟩⟩, fun q2 => ?_⟩⟩
  · have := ok.1; omega
  · have := ok.1; omega
  · rw [j1]
    refine ⟨by omega, fun q => ?_, fun q => ⟨f1, Or.inr ⟨rfl, fun ok => ?_, j1⟩⟩⟩
    · exact vc_21_33 hw ⟨q1, q2⟩ ⟨hl.1, q⟩ n.toNat 0 h1 none (by omega) (by omega) T1 j1 f1 (fun j hj => by omega)
    · have := ok.1; omega
theorem vc_tP_eq {w n len r1 r2 : Int} {h1 h2 h3 h4 : ve_H} {la lk ta la2 lk2 ta2 : Nat} {S S2 : Nat → Nat → Prop} (p : vc_tP la lk ta S w n len h1 r1 h2) (q : vc_tP la2 lk2 ta2 S2 w n len h3 r2 h4) : r1 = r2 := by
  rcases p.2 with ⟨e, ok, _⟩ | ⟨e, ok, _⟩ <;> rcases q.2 with ⟨e2, ok2, _⟩ | ⟨e2, ok2, _⟩
  · rw [e, e2]
  · exact absurd ok ok2
  · exact absurd ok2 ok
  · rw [e, e2]
