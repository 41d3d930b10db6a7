/-! The class's tokens -/
def vt_tx (h : ve_H) (n : Nat) (c : Nat → Int) : Prop := vx_J h 2 4 = n ∧ n ≤ 600 ∧ ∀ i, i < n → vx_J h 3 i = c i ∧ 32 ≤ c i ∧ c i ≤ 126
abbrev vt_S (T a k : Nat) : Prop := (a = 2 ∧ k = 5) ∨ ((a = 4 ∨ a = 5 ∨ a = 6) ∧ T ≤ k)
def vt_p1 (T : Nat) (kd pl ct : Int) (h h1 : ve_H) : Prop := vx_fr (vt_S T) h h1 ∧ vx_J h1 2 5 = (T : Int) + 1 ∧ vx_J h1 4 T = kd ∧ vx_J h1 5 T = pl ∧ vx_K h1 6 T = ct
theorem vt_tx_fr {T : Nat} {h h1 : ve_H} {n : Nat} {c : Nat → Int} (X : vt_tx h n c) (f : vx_fr (vt_S T) h h1) : vt_tx h1 n c :=
  ⟨(vx_fr_J f (by omega)).trans X.1, X.2.1, fun i hi => ⟨(vx_fr_J f (by omega)).trans (X.2.2 i hi).1, (X.2.2 i hi).2⟩⟩
section
variable {d : Nat} {h : ve_H} {x y z : Int}
theorem vc_206 (hT : vx_T 1 625 h) (hx : vx_rI x) : vx_CI d 206 [.int (vx_i x)] h (fun r h1 => h1 = h ∧ ((r = 1 ∧ 97 ≤ x ∧ x ≤ 122) ∨ (r = 0 ∧ ¬ (97 ≤ x ∧ x ≤ 122)))) :=
  vg_206 hT ⟨hx, fun q => ⟨rfl, by omega⟩, fun q => ⟨fun q2 => ⟨rfl, by omega⟩, fun q2 => ⟨rfl, by omega⟩⟩⟩
theorem vc_207 (hT : vx_T 1 625 h) (hx : vx_rI x) : vx_CI d 207 [.int (vx_i x)] h (fun r h1 => h1 = h ∧ ((r = 1 ∧ 65 ≤ x ∧ x ≤ 90) ∨ (r = 0 ∧ ¬ (65 ≤ x ∧ x ≤ 90)))) :=
  vg_207 hT ⟨hx, fun q => ⟨rfl, by omega⟩, fun q => ⟨fun q2 => ⟨rfl, by omega⟩, fun q2 => ⟨rfl, by omega⟩⟩⟩
theorem vc_208 (hT : vx_T 1 625 h) (hx : vx_rI x) : vx_CI d 208 [.int (vx_i x)] h (fun r h1 => h1 = h ∧ ((r = 1 ∧ 48 ≤ x ∧ x ≤ 57) ∨ (r = 0 ∧ ¬ (48 ≤ x ∧ x ≤ 57)))) :=
  vg_208 hT ⟨hx, fun q => ⟨rfl, by omega⟩, fun q => ⟨fun q2 => ⟨rfl, by omega⟩, fun q2 => ⟨rfl, by omega⟩⟩⟩
theorem vc_205 (hT : vx_T 1 625 h) (hx : vx_rI x) : vx_CI d 205 [.int (vx_i x)] h (fun r h1 => h1 = h ∧ ((r = 1 ∧ vt_sg x) ∨ (r = 0 ∧ ¬ vt_sg x))) := by
  refine vg_205 hT ⟨hx, ?_, ?_, ?_, ?_, ?_, ?_, ?_, ?_, ?_, ?_, ?_, ?_, ?_, ?_, ?_, ?_⟩ <;> exact fun q => ⟨rfl, by omega⟩
theorem vc_204 (hT : vx_T 1 625 h) (hx : vx_rI x) (hy : vx_rI y) : vx_CI d 204 [.int (vx_i x), .int (vx_i y)] h (fun r h1 => h1 = h ∧ r = vt_pair x y) := by
  have e : (x = 58 ∧ y = 45 → vt_pair x y = 10) ∧ (x = 33 ∧ y = 61 → vt_pair x y = 11) ∧ (x = 60 ∧ y = 61 → vt_pair x y = 12) ∧ (x = 62 ∧ y = 61 → vt_pair x y = 13) ∧ (¬ (x = 58 ∧ y = 45) → ¬ (x = 33 ∧ y = 61) → ¬ (x = 60 ∧ y = 61) → ¬ (x = 62 ∧ y = 61) → vt_pair x y = -1) := by
    unfold vt_pair
    refine ⟨fun q => if_pos q, fun q => ?_, fun q => ?_, fun q => ?_, fun q1 q2 q3 q4 => ?_⟩
    · rw [if_neg (by omega), if_pos q]
    · rw [if_neg (by omega), if_neg (by omega), if_pos q]
    · rw [if_neg (by omega), if_neg (by omega), if_neg (by omega), if_pos q]
    · rw [if_neg q1, if_neg q2, if_neg q3, if_neg q4]
  obtain ⟨e1, e2, e3, e4, e5⟩ := e
  refine vg_204 hT ⟨hx, fun q => ⟨hy, fun q2 => ⟨fun q3 => ⟨rfl, (e2 (by omega)).symm⟩, fun q3 => ⟨rfl, (e3 (by omega)).symm⟩, fun q3 => ⟨rfl, (e4 (by omega)).symm⟩, fun q3 => ⟨rfl, (e5 (by omega) (by omega) (by omega) (by omega)).symm⟩⟩, fun q2 => ⟨rfl, (e5 (by omega) (by omega) (by omega) (by omega)).symm⟩⟩, fun q => ⟨hy, fun q2 => ⟨fun q2 => ⟨fun q3 => absurd q3 (by omega), fun q3 => absurd q3 (by omega), fun q3 => absurd q3 (by omega), fun q3 => ⟨rfl, (e5 (by omega) (by omega) (by omega) (by omega)).symm⟩⟩, fun q3 => ⟨rfl, (e5 (by omega) (by omega) (by omega) (by omega)).symm⟩⟩, fun q2 => ⟨rfl, (e1 (by omega)).symm⟩⟩⟩
theorem vc_203 (hT : vx_T 1 625 h) (hx : vx_rL x) : vx_CI d 203 [.long (vx_l x)] h (fun r h1 => h1 = h ∧ r = vt_nk x) := by
  unfold vt_nk
  refine vg_203 hT ⟨hx, fun q1 => ⟨fun q2 => ⟨fun q3 => ⟨fun q4 => ⟨fun q5 => ⟨rfl, ?_⟩, fun q5 => ⟨rfl, ?_⟩⟩, fun q4 => ⟨rfl, ?_⟩⟩, fun q3 => ⟨rfl, ?_⟩⟩, fun q2 => ⟨rfl, ?_⟩⟩, fun q1 => ⟨rfl, ?_⟩⟩
  · rw [if_neg q1, if_neg q2, if_neg q3, if_neg q4, if_neg q5]
  · rw [if_neg q1, if_neg q2, if_neg q3, if_neg q4, if_pos q5]
  · rw [if_neg q1, if_neg q2, if_neg q3, if_pos q4]
  · rw [if_neg q1, if_neg q2, if_pos q3]
  · rw [if_neg q1, if_pos q2]
  · rw [if_pos q1]
theorem vc_202 {T : Nat} (hT : vx_T 1 625 h) (ht : vx_J h 2 5 = T) (hn : T ≤ 600) (hx : vx_rI x) (hy : vx_rI y) (hz : vx_rL z) : vx_CV d 202 [.ref 2, .int (vx_i x), .int (vx_i y), .long (vx_l z)] h (vt_p1 T x y z h) := by
  refine vg_202 hT ?_
  rw [ht, Int.toNat_natCast]
  refine ⟨fun _ => ⟨by omega, fun h3 e3 T3 => ?_⟩, fun q => absurd q (by omega)⟩
  have t3 : vx_J h3 2 5 = T := by rw [e3, vx_J_ne (by omega), ht]
  rw [t3, Int.toNat_natCast]
  refine ⟨by omega, fun h5 e5 T5 => ?_⟩
  have t5 : vx_J h5 2 5 = T := by rw [e5, vx_J_ne (by omega), t3]
  rw [t5, Int.toNat_natCast]
  refine ⟨by omega, fun h7 e7 T7 h8 e8 T8 => ?_⟩
  have t7 : vx_J h7 2 5 = T := by rw [e7, vx_J_sK, t5]
  rw [t7] at e8
  refine ⟨vx_fr_sJ (vx_fr_sK (vx_fr_sJ (vx_fr_sJ vx_fr_refl e3 (by omega)) e5 (by omega)) e7 (by omega)) e8 (by omega), ?_, ?_, ?_, ?_⟩
  · rw [e8, vx_J_eq (by omega)]
  · rw [e8, vx_J_ne (by omega), e7, vx_J_sK, e5, vx_J_ne (by omega), e3, vx_J_eq hx]
  · rw [e8, vx_J_ne (by omega), e7, vx_J_sK, e5, vx_J_eq hy]
  · rw [e8, vx_K_sJ, e7, vx_K_eq hz]
theorem vc_198 {T n : Nat} {c : Nat → Int} (hT : vx_T 1 625 h) (X : vt_tx h n c) (ht : vx_J h 2 5 = T) (hn : T ≤ 600) (hx : vx_rI x) : vx_CI (d + 1) 198 [.ref 2, .int (vx_i x)] h (fun r h1 => r = n ∧ vt_p1 T 1 x 0 h h1) :=
  vg_198 hT (vx_CV_mono (vc_202 hT ht hn (by omega) hx (by omega)) (fun h1 p _ => ⟨(vt_tx_fr X p.1).1, p⟩))
theorem vc_196_2 {n : Nat} {c : Nat → Int} {g x : Int} (hT : vx_T 1 625 h) (X : vt_tx h n c) (hg : vx_rI g) : ∀ (m i : Nat) (y : Int), y = i → n - i = m → i ≤ n → vx_W (d + 1) 196 2 [some (.ref 2), some (.int (vx_i x)), some (.int (vx_i g)), some (.int (vx_i y))] [] h (vx_RI (fun r h1 => h1 = h ∧ r = (vt_end (vt_wb g) c n i : Nat))) := by
  have hn := X.2.1
  intro m
  induction m with
  | zero =>
    intro i y hy hm hi
    refine vg_196_2 hT ⟨by omega, fun _ => ⟨rfl, by rw [vt_end_ge (by omega)]; exact hy⟩, fun q => absurd q (by rw [X.1]; omega)⟩
  | succ m ih =>
    intro i y hy hm hi
    have hi2 : i < n := by omega
    have hc := X.2.2 i hi2
    have ey : y.toNat = i := by omega
    have N := ih (i + 1) (y + 1) (by omega) (by omega) (by omega)
    refine vg_196_2 hT ⟨by omega, fun q => absurd q (by rw [X.1]; omega), fun _ => ⟨by omega, ?_⟩⟩
    rw [ey, hc.1]
    refine vx_CI_mono (vc_206 hT (by omega)) ?_
    rintro r4 h4 _ ⟨rfl, hr⟩ T4
    refine ⟨fun q => ?_, fun q => ⟨by omega, ?_⟩⟩
    · rw [vt_end_t hi2 (decide_eq_true (by omega))]
      exact N
    rw [hc.1]
    refine vx_CI_mono (vc_208 hT (by omega)) ?_
    rintro r7 h7 _ ⟨rfl, hr7⟩ T7
    refine ⟨fun q => ?_, fun q => ⟨hg, fun q0 => ⟨rfl, ?_⟩, fun q0 => ⟨by omega, ?_⟩⟩⟩
    · rw [vt_end_t hi2 (decide_eq_true (by omega))]
      exact N
    · rw [vt_end_f (decide_eq_false (by omega))]
      exact hy
    rw [hc.1]
    refine vx_CI_mono (vc_207 hT (by omega)) ?_
    rintro r12 h12 _ ⟨rfl, hr12⟩ T12
    refine ⟨fun q => ⟨rfl, ?_⟩, fun q => ?_⟩
    · rw [vt_end_f (decide_eq_false (by omega))]
      exact hy
    · rw [vt_end_t hi2 (decide_eq_true (by omega))]
      exact N
theorem vc_196 {n i : Nat} {c : Nat → Int} {g : Int} (hT : vx_T 1 625 h) (X : vt_tx h n c) (hg : vx_rI g) (hy : y = i) (hi : i ≤ n) : vx_CI (d + 1) 196 [.ref 2, .int (vx_i y), .int (vx_i g)] h (fun r h1 => h1 = h ∧ r = (vt_end (vt_wb g) c n i : Nat)) :=
  vg_196 hT (vc_196_2 hT X hg (n - i) i y hy rfl hi)
theorem vc_197_2 {n : Nat} {c : Nat → Int} {x : Int} (hT : vx_T 1 625 h) (X : vt_tx h n c) : ∀ (m i : Nat) (y : Int), y = i → n - i = m → i ≤ n → vx_W (d + 1) 197 2 [some (.ref 2), some (.int (vx_i x)), some (.int (vx_i y))] [] h (vx_RI (fun r h1 => h1 = h ∧ r = (vt_end vt_db c n i : Nat))) := by
  have hn := X.2.1
  intro m
  induction m with
  | zero =>
    intro i y hy hm hi
    refine vg_197_2 hT ⟨by omega, fun _ => ⟨rfl, by rw [vt_end_ge (by omega)]; exact hy⟩, fun q => absurd q (by rw [X.1]; omega)⟩
  | succ m ih =>
    intro i y hy hm hi
    have hi2 : i < n := by omega
    have hc := X.2.2 i hi2
    have ey : y.toNat = i := by omega
    have N := ih (i + 1) (y + 1) (by omega) (by omega) (by omega)
    refine vg_197_2 hT ⟨by omega, fun q => absurd q (by rw [X.1]; omega), fun _ => ⟨by omega, ?_⟩⟩
    rw [ey, hc.1]
    refine vx_CI_mono (vc_208 hT (by omega)) ?_
    rintro r4 h4 _ ⟨rfl, hr⟩ T4
    refine ⟨fun q => ⟨rfl, ?_⟩, fun q => ?_⟩
    · rw [vt_end_f (decide_eq_false (by omega))]
      exact hy
    · rw [vt_end_t hi2 (decide_eq_true (by omega))]
      exact N
theorem vc_197 {n i : Nat} {c : Nat → Int} (hT : vx_T 1 625 h) (X : vt_tx h n c) (hy : y = i) (hi : i ≤ n) : vx_CI (d + 1) 197 [.ref 2, .int (vx_i y)] h (fun r h1 => h1 = h ∧ r = (vt_end vt_db c n i : Nat)) :=
  vg_197 hT (vc_197_2 hT X (n - i) i y hy rfl hi)
theorem vc_200_6 {n T e : Nat} {c : Nat → Int} {kd x z : Int} {v : Int} (hT : vx_T 1 625 h) (X : vt_tx h n c) (ht : vx_J h 2 5 = T) (hn : T ≤ 600) (hk : vx_rI kd) (he : e ≤ n) (hz : z = e) (hx : 0 ≤ x ∧ x ≤ 600) (hv : 0 ≤ v ∧ v < 281474976710656) : ∀ (m : Nat) (j : Int) (a : Int), 6 - j = m → 0 ≤ j → vt_pk c e m (x + j).toNat a = v → vx_W (d + 1) 200 6 [some (.ref 2), some (.int (vx_i kd)), some (.int (vx_i x)), some (.int (vx_i z)), some (.long (vx_l a)), none, some (.int (vx_i j))] [] h (vx_RI (fun r h1 => r = e ∧ vt_p1 T kd x (72057594037927936 + v) h h1)) := by
  have hn2 := X.2.1
  intro m
  induction m with
  | zero =>
    intro j a hm hj ha
    have ha : a = v := ha
    rw [ha]
    refine vg_200_6 hT ⟨by omega, fun _ => ?_, fun q => absurd q (by omega)⟩
    exact vx_CV_mono (vc_202 hT ht hn hk (by omega) (by omega)) (fun h3 p _ => ⟨by omega, hz, p⟩)
  | succ m ih =>
    intro j a hm hj ha
    have ha : vt_pk c e m ((x + j).toNat + 1) (a * 256 + (bif Nat.blt (x + j).toNat e then c (x + j).toNat else 0)) = v := ha
    refine vg_200_6 hT ⟨by omega, fun q => absurd q (by omega), fun _ => ⟨by omega, by omega, fun q => ?_, fun q => ⟨by omega, ?_⟩⟩⟩
    · refine ih (j + 1) (a * 256 + 0) (by omega) (by omega) ?_
      have hb : Nat.blt (x + j).toNat e = false := by
        cases hb : Nat.blt (x + j).toNat e with
        | false => rfl
        | true => have := Nat.le_of_ble_eq_true hb; omega
      rw [hb] at ha
      rw [show (x + (j + 1)).toNat = (x + j).toNat + 1 by omega]
      exact ha
    · rw [(X.2.2 (x + j).toNat (by omega)).1]
      refine ih (j + 1) _ (by omega) (by omega) ?_
      have hb : Nat.blt (x + j).toNat e = true := Nat.ble_eq_true_of_le (by omega)
      rw [hb] at ha
      rw [show (x + (j + 1)).toNat = (x + j).toNat + 1 by omega]
      exact ha
theorem vt_pk6 {c : Nat → Int} {n e : Nat} (hc : ∀ i, i < n → 32 ≤ c i ∧ c i ≤ 126) (he : e ≤ n) (i : Nat) : 0 ≤ vt_pk c e 6 i 0 ∧ vt_pk c e 6 i 0 < 281474976710656 := by
  have := vt_pk_r (c := c) (e := e) (fun i hi => by have := hc i (by omega); omega) 6 i 0 1 (by omega) (by omega)
  exact ⟨this.1, Int.lt_of_lt_of_le this.2 (by decide)⟩
theorem vc_200 {n T e i : Nat} {c : Nat → Int} {kd : Int} (hT : vx_T 1 625 h) (X : vt_tx h n c) (ht : vx_J h 2 5 = T) (hn : T ≤ 600) (hk : vx_rI kd) (he : e ≤ n) (hy : y = i) (hi : i ≤ n) (hz : z = e) : vx_CI (d + 1) 200 [.ref 2, .int (vx_i kd), .int (vx_i y), .int (vx_i z)] h (fun r h1 => r = e ∧ vt_p1 T kd y (vt_nm c e i) h h1) := by
  have hn2 := X.2.1
  refine vg_200 hT (vc_200_6 hT X ht hn hk he hz (by omega) (vt_pk6 (fun i hi => (X.2.2 i hi).2) he i) 6 0 0 (by omega) (by omega) ?_)
  rw [show (y + 0).toNat = i by omega]
theorem vc_199 {n T e i : Nat} {c : Nat → Int} (hT : vx_T 1 625 h) (X : vt_tx h n c) (ht : vx_J h 2 5 = T) (hn : T ≤ 600) (he : e ≤ n) (hy : y = i) (hi : i ≤ n) (hz : z = e) : vx_CI (d + 2) 199 [.ref 2, .int (vx_i y), .int (vx_i z)] h (fun r h1 => r = e ∧ vt_p1 T (vt_nk (vt_nm c e i)) y (vt_nm c e i) h h1) := by
  have hn2 := X.2.1
  have hv := vt_pk6 (fun i hi => (X.2.2 i hi).2) he i
  refine vg_199 hT (vx_CI_mono (vc_200 hT X ht hn (by omega) he hy hi hz) ?_)
  rintro r1 h1 _ ⟨-, f1, t1, k1, p1, c1⟩ T1
  have et : (vx_J h1 2 5 - 1).toNat = T := by rw [t1]; omega
  rw [et, c1]
  refine ⟨by rw [t1]; omega, vx_CI_mono (vc_203 T1 (by unfold vt_nm; omega)) ?_⟩
  rintro r3 h3 hr3 ⟨rfl, rfl⟩ T3
  refine ⟨by rw [t1]; omega, fun h5 e5 T5 => ⟨by omega, hz, vx_fr_sJ f1 e5 (by omega), ?_, ?_, ?_, ?_⟩⟩
  · rw [e5, vx_J_ne (by omega), t1]
  · rw [e5, vx_J_eq hr3]
  · rw [e5, vx_J_ne (by omega), p1]
  · rw [e5, vx_K_sJ, c1]
theorem vc_201_5 {n T e : Nat} {c : Nat → Int} {x z v : Int} (hT : vx_T 1 625 h) (X : vt_tx h n c) (ht : vx_J h 2 5 = T) (hn : T ≤ 600) (he : e ≤ n) (hz : z = e) (hx : 0 ≤ x ∧ x ≤ 600) (hv : 0 ≤ v ∧ v < 1000000000) : ∀ (m i : Nat) (y a : Int), y = i → e - i = m → i ≤ e → vt_num c m i a = v → vx_W (d + 1) 201 5 [some (.ref 2), some (.int (vx_i x)), some (.int (vx_i z)), some (.long (vx_l a)), none, some (.int (vx_i y))] [] h (vx_RI (fun r h1 => r = e ∧ vt_p1 T 4 x v h h1)) := by
  have hn2 := X.2.1
  intro m
  induction m with
  | zero =>
    intro i y a hy hm hi ha
    have ha : a = v := ha
    rw [ha]
    refine vg_201_5 hT ⟨by omega, by omega, fun _ => ?_, fun q => absurd q (by omega)⟩
    exact vx_CV_mono (vc_202 hT ht hn (by omega) (by omega) (by omega)) (fun h3 p _ => ⟨hz, p⟩)
  | succ m ih =>
    intro i y a hy hm hi ha
    have ha : vt_num c m (i + 1) (a * 10 + (c i - 48)) = v := ha
    have hc := X.2.2 i (by omega)
    refine vg_201_5 hT ⟨by omega, by omega, fun q => absurd q (by omega), fun _ => ⟨by omega, ?_⟩⟩
    rw [show y.toNat = i by omega, hc.1]
    exact ⟨by omega, ih (i + 1) (y + 1) _ (by omega) (by omega) (by omega) ha⟩
theorem vt_num9 {c : Nat → Int} {n i : Nat} (h9 : vt_end vt_db c n i ≤ i + 9) (hi : i ≤ n) : 0 ≤ vt_num c (vt_end vt_db c n i - i) i 0 ∧ vt_num c (vt_end vt_db c n i - i) i 0 < 1000000000 := by
  have hle := vt_end_le (p := vt_db) (c := c) hi
  have := vt_num_r (c := c) (vt_end vt_db c n i - i) i 0 1 (fun j q1 q2 => of_decide_eq_true (vt_end_all (p := vt_db) (n := n) q1 (by omega))) (by omega) (by omega)
  refine ⟨this.1, Int.lt_of_lt_of_le this.2 ?_⟩
  have hk : vt_end vt_db c n i - i ≤ 9 := by omega
  generalize vt_end vt_db c n i - i = k at hk
  match k, hk with
  | 0, _ => decide
  | 1, _ => decide
  | 2, _ => decide
  | 3, _ => decide
  | 4, _ => decide
  | 5, _ => decide
  | 6, _ => decide
  | 7, _ => decide
  | 8, _ => decide
  | 9, _ => decide
  | k + 10, hk => omega
theorem vc_201 {n T i : Nat} {c : Nat → Int} (hT : vx_T 1 625 h) (X : vt_tx h n c) (ht : vx_J h 2 5 = T) (hn : T ≤ 600) (hy : y = i) (hi : i ≤ n) (h9 : vt_end vt_db c n i ≤ i + 9) (hz : z = (vt_end vt_db c n i : Nat)) : vx_CI (d + 1) 201 [.ref 2, .int (vx_i y), .int (vx_i z)] h (fun r h1 => r = (vt_end vt_db c n i : Nat) ∧ vt_p1 T 4 y (vt_num c (vt_end vt_db c n i - i) i 0) h h1) := by
  have hn2 := X.2.1
  have hle := vt_end_le (p := vt_db) (c := c) hi
  exact vg_201 hT (vc_201_5 hT X ht hn hle.2 hz (by omega) (vt_num9 h9 hi) _ i y 0 hy rfl hle.1 rfl)
theorem vc_195 {n T i : Nat} {c : Nat → Int} (hT : vx_T 1 625 h) (X : vt_tx h n c) (ht : vx_J h 2 5 = T) (hn : T ≤ 600) (hy : y = i) (hi : i < n) : vx_CI (d + 3) 195 [.ref 2, .int (vx_i y)] h (fun r h1 => r = ((vt_tok c n i).2.2 : Nat) ∧ vt_p1 T (vt_tok c n i).1 y (vt_tok c n i).2.1 h h1) := by
  have hn2 := X.2.1
  have hx4 := X.1
  have hc := X.2.2 i hi
  have ey : y.toNat = i := by omega
  refine vg_195 hT ⟨by omega, ?_⟩
  rw [ey, hc.1]
  refine vx_CI_mono (vc_206 hT (by omega)) ?_
  rintro r2 h2 _ ⟨rfl, hr2⟩ -
  refine ⟨fun q2 => ?_, fun q2 => ?_⟩
  · refine vx_CI_mono (vc_207 hT (by omega)) ?_
    rintro r4 h4 _ ⟨rfl, hr4⟩ -
    refine ⟨fun q4 => ?_, fun q4 => ?_⟩
    · refine vx_CI_mono (vc_208 hT (by omega)) ?_
      rintro r6 h6 _ ⟨rfl, hr6⟩ -
      refine ⟨fun q6 => ?_, fun q6 => ?_⟩
      · have e0 : vt_tok c n i = if vt_pair (c i) (vt_see c n (i + 1)) ≠ -1 then (vt_pair (c i) (vt_see c n (i + 1)), 0, i + 2) else if vt_sg (c i) then (c i, 0, i + 1) else (1, 0, n) := by
          unfold vt_tok
          rw [if_neg (by omega), if_neg (by omega), if_neg (by omega)]
        have B : ∀ {d : Nat}, vt_pair (c i) (vt_see c n (i + 1)) = -1 → vx_CI (d + 2) 205 [.int (vx_i (c i))] h6 (fun r10 h10 => vx_T 1 625 h10 → ((r10 ≠ 0 → vx_CV (d + 2) 202 [.ref 2, .int (vx_i (c i)), .int (vx_i y), .long (vx_l 0)] h10 (fun h12 => vx_T 1 625 h12 → (y + 1) = ((vt_tok c n i).2.2 : Nat) ∧ vt_p1 T (vt_tok c n i).1 y (vt_tok c n i).2.1 h6 h12)) ∧ (r10 = 0 → vx_CI (d + 2) 198 [.ref 2, .int (vx_i y)] h10 (fun r13 h13 => vx_T 1 625 h13 → r13 = ((vt_tok c n i).2.2 : Nat) ∧ vt_p1 T (vt_tok c n i).1 y (vt_tok c n i).2.1 h6 h13)))) := by
          intro d hp
          refine vx_CI_mono (vc_205 hT (by omega)) ?_
          rintro r10 h10 _ ⟨rfl, hr10⟩ -
          refine ⟨fun q => ?_, fun q => ?_⟩
          · rw [e0, if_neg (fun t => t hp), if_pos (by omega)]
            exact vx_CV_mono (vc_202 hT ht hn (by omega) (by omega) (by omega)) (fun h12 p _ => ⟨by show y + 1 = ((i + 1 : Nat) : Int); omega, p⟩)
          · rw [e0, if_neg (fun t => t hp), if_neg (by omega)]
            exact vx_CI_mono (vc_198 hT X ht hn (by omega)) (fun r h13 _ p _ => p)
        refine ⟨by omega, fun q => B ?_, fun q => ⟨by omega, ?_⟩⟩
        · by_cases t : vt_pair (c i) (vt_see c n (i + 1)) = -1
          · exact t
          · exact absurd (vt_pair_see t) (by omega)
        · have hi1 : i + 1 < n := by omega
          have hc1 := X.2.2 (i + 1) hi1
          have es : vt_see c n (i + 1) = c (i + 1) := by unfold vt_see; rw [if_pos hi1]
          rw [show (y + 1).toNat = i + 1 by omega, hc1.1]
          refine vx_CI_mono (vc_204 hT (by omega) (by omega)) ?_
          rintro r15 h15 hr15 ⟨rfl, rfl⟩ -
          rw [← es] at hr15 ⊢
          refine ⟨fun q => B q, fun q => ?_⟩
          rw [e0, if_pos q]
          exact vx_CV_mono (vc_202 hT ht hn hr15 (by omega) (by omega)) (fun h21 p _ => ⟨by omega, by show y + 2 = ((i + 2 : Nat) : Int); omega, p⟩)
      · have e0 : vt_tok c n i = if vt_end vt_db c n i ≤ i + 9 then (4, vt_num c (vt_end vt_db c n i - i) i 0, vt_end vt_db c n i) else (1, 0, n) := by
          unfold vt_tok
          rw [if_neg (by omega), if_neg (by omega), if_pos (by omega)]
        have hle := vt_end_le (p := vt_db) (c := c) (n := n) (i := i) (by omega)
        refine vx_CI_mono (vc_197 hT X hy (by omega)) ?_
        rintro r23 h23 _ ⟨rfl, rfl⟩ -
        refine ⟨by omega, fun q => ?_, fun q => ?_⟩
        · rw [e0, if_pos (by omega)]
          exact vx_CI_mono (vc_201 hT X ht hn hy (by omega) (by omega) rfl) (fun r h26 _ p _ => p)
        · rw [e0, if_neg (by omega)]
          exact vx_CI_mono (vc_198 hT X ht hn (by omega)) (fun r h26 _ p _ => p)
    · have e0 : vt_tok c n i = if vt_end (vt_wb 1) c n i ≤ i + 4 then (3, vt_nm c (vt_end (vt_wb 1) c n i) i, vt_end (vt_wb 1) c n i) else (1, 0, n) := by
        unfold vt_tok
        rw [if_neg (by omega), if_pos (by omega)]
      have hle := vt_end_le (p := vt_wb 1) (c := c) (n := n) (i := i) (by omega)
      refine vx_CI_mono (vc_196 hT X (by omega) hy (by omega)) ?_
      rintro r28 h28 _ ⟨rfl, rfl⟩ -
      refine ⟨by omega, fun q => ?_, fun q => ?_⟩
      · rw [e0, if_pos (by omega)]
        exact vx_CI_mono (vc_200 hT X ht hn (by omega) hle.2 hy (by omega) rfl) (fun r h31 _ p _ => p)
      · rw [e0, if_neg (by omega)]
        exact vx_CI_mono (vc_198 hT X ht hn (by omega)) (fun r h31 _ p _ => p)
  · have e0 : vt_tok c n i = if vt_end (vt_wb 0) c n i ≤ i + 6 then (vt_nk (vt_nm c (vt_end (vt_wb 0) c n i) i), vt_nm c (vt_end (vt_wb 0) c n i) i, vt_end (vt_wb 0) c n i) else (1, 0, n) := by
      unfold vt_tok
      rw [if_pos (by omega)]
    have hle := vt_end_le (p := vt_wb 0) (c := c) (n := n) (i := i) (by omega)
    refine vx_CI_mono (vc_196 hT X (by omega) hy (by omega)) ?_
    rintro r33 h33 _ ⟨rfl, rfl⟩ -
    refine ⟨by omega, fun q => ?_, fun q => ?_⟩
    · rw [e0, if_pos (by omega)]
      exact vx_CI_mono (vc_199 hT X ht hn hle.2 hy (by omega) rfl) (fun r h36 _ p _ => p)
    · rw [e0, if_neg (by omega)]
      exact vx_CI_mono (vc_198 hT X ht hn (by omega)) (fun r h36 _ p _ => p)
end
/-- the tokens from T on -/
def vt_kc (h : ve_H) (T : Nat) (ts : List (Int × Int × Int)) : Prop := ∀ j, j < ts.length → vx_J h 4 (T + j) = (ts.getD j (0, 0, 0)).1 ∧ vx_J h 5 (T + j) = (ts.getD j (0, 0, 0)).2.1 ∧ vx_K h 6 (T + j) = (ts.getD j (0, 0, 0)).2.2
theorem vt_kc_cons {h h1 : ve_H} {T : Nat} {kd pl ct : Int} {ts : List (Int × Int × Int)} (f : vx_fr (vt_S (T + 1)) h h1) (hk : vx_J h 4 T = kd) (hp : vx_J h 5 T = pl) (hc : vx_K h 6 T = ct) (t : vt_kc h1 (T + 1) ts) : vt_kc h1 T ((kd, pl, ct) :: ts) := by
  intro j hj
  cases j with
  | zero => exact ⟨(vx_fr_J f (by omega)).trans hk, (vx_fr_J f (by omega)).trans hp, (vx_fr_K f (by omega)).trans hc⟩
  | succ j =>
    have := t j (Nat.lt_of_succ_lt_succ hj)
    rw [show T + 1 + j = T + (j + 1) by omega] at this
    exact this
theorem vc_194_9 {d n : Nat} {c : Nat → Int} : ∀ (f i T : Nat) (h : ve_H) (x y : Int), x = i → 600 - y = f → 0 ≤ y → T ≤ i → i ≤ n → vx_T 1 625 h → vt_tx h n c → vx_J h 2 5 = T →
    vx_W (d + 4) 194 9 [some (.ref 2), some (.int (vx_i x)), some (.int (vx_i y))] [] h (vx_RV (fun h1 => vx_fr (vt_S T) h h1 ∧ vt_kc h1 T (vt_toks c n f i) ∧ vx_J h1 2 5 = ((T + (vt_toks c n f i).length : Nat) : Int))) := by
  intro f
  have E : ∀ (T : Nat) (h : ve_H), T ≤ n → vx_T 1 625 h → vt_tx h n c → vx_J h 2 5 = T → vx_CV (d + 3) 202 [.ref 2, .int (vx_i 0), .int (vx_i (vx_J h 2 4)), .long (vx_l 0)] h (fun h3 => vx_T 1 625 h3 → vx_fr (vt_S T) h h3 ∧ vt_kc h3 T [(0, (n : Int), 0)] ∧ vx_J h3 2 5 = ((T + [((0 : Int), (n : Int), (0 : Int))].length : Nat) : Int)) := by
    intro T h hTn hT X ht
    have hn := X.2.1
    rw [X.1]
    refine vx_CV_mono (vc_202 hT ht (by omega) (by omega) (by omega) (by omega)) ?_
    rintro h3 ⟨f3, t3, k3, p3, c3⟩ _
    refine ⟨f3, fun j hj => ?_, by rw [t3]; rfl⟩
    have hj0 : j = 0 := Nat.lt_one_iff.mp hj
    subst hj0
    exact ⟨k3, p3, c3⟩
  induction f with
  | zero =>
    intro i T h x y hx hf hy hTi hi hT X ht
    exact vg_194_9 hT ⟨by omega, fun _ => E T h (by omega) hT X ht, fun q => absurd q (by omega)⟩
  | succ f ih =>
    intro i T h x y hx hf hy hTi hi hT X ht
    have hn := X.2.1
    refine vg_194_9 hT ⟨by omega, fun q => absurd q (by omega), fun _ => ⟨by omega, fun q => ?_, fun q => ⟨by rw [X.1] at q; omega, ?_⟩⟩⟩
    · rw [X.1] at q
      have e0 : vt_toks c n (f + 1) i = [(0, (n : Int), 0)] := if_neg (by omega)
      rw [e0]
      exact E T h (by omega) hT X ht
    · rw [X.1] at q
      have hin : i < n := by omega
      have hc := X.2.2 i hin
      rw [show x.toNat = i by omega, hc.1]
      refine ⟨fun q2 => ?_, fun q2 => ?_⟩
      · have e0 : vt_toks c n (f + 1) i = ((vt_tok c n i).1, (i : Int), (vt_tok c n i).2.1) :: vt_toks c n f (vt_tok c n i).2.2 := by
          show (if i < n then (if c i = 32 then vt_toks c n f (i + 1) else _) else _) = _
          rw [if_pos hin, if_neg q2]
        have hnx := vt_tok_next (c := c) hin
        refine vx_CI_mono (vc_195 hT X ht (by omega) hx hin) ?_
        rintro r9 h9 _ ⟨rfl, f9, t9, k9, p9, c9⟩ T9
        refine vx_mono (ih (vt_tok c n i).2.2 (T + 1) h9 _ (y + 1) rfl (by omega) (by omega) (by omega) hnx.2 T9 (vt_tx_fr X f9) t9) ?_
        rintro o h1 ⟨rfl, g1, g2, g3⟩
        refine ⟨rfl, vx_fr_trans f9 (vx_fr_mono g1 (by omega)), ?_, ?_⟩
        · rw [e0]
          exact vt_kc_cons g1 k9 (p9.trans hx) c9 g2
        · rw [e0, g3, List.length_cons]
          omega
      · have e0 : vt_toks c n (f + 1) i = vt_toks c n f (i + 1) := by
          show (if i < n then (if c i = 32 then vt_toks c n f (i + 1) else _) else _) = _
          rw [if_pos hin, if_pos q2]
        rw [e0]
        exact ih (i + 1) T h (x + 1) (y + 1) (by omega) (by omega) (by omega) (by omega) (by omega) hT X ht
theorem vc_194 {d n : Nat} {c : Nat → Int} {h : ve_H} (hT : vx_T 1 625 h) (X : vt_tx h n c) : vx_CV (d + 4) 194 [.ref 2] h (fun h1 => vx_fr (vt_S 0) h h1 ∧ vt_kc h1 0 (vt_toks c n 600 0) ∧ vx_J h1 2 5 = ((vt_toks c n 600 0).length : Int)) := by
  refine vg_194 hT (fun h1 e1 T1 => ?_)
  have f1 : vx_fr (vt_S 0) h h1 := vx_fr_sJ vx_fr_refl e1 (by omega)
  refine vx_mono (vc_194_9 600 0 0 h1 0 0 rfl (by omega) (by omega) (by omega) (by omega) T1 (vt_tx_fr X f1) (by rw [e1, vx_J_eq (by omega)]; rfl)) ?_
  rintro o h2 ⟨rfl, g1, g2, g3⟩
  exact ⟨rfl, vx_fr_trans f1 g1, g2, by rw [g3, Nat.zero_add]⟩
