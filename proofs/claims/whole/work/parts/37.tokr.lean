/-! The reference's tokens -/
def vt_tr (h : ve_H) (n : Nat) (c : Nat → Int) : Prop := vx_J h 625 2 = n ∧ n ≤ 600 ∧ ∀ i, i < n → vx_J h 626 i = c i ∧ 32 ≤ c i ∧ c i ≤ 126
abbrev vt_R (T a k : Nat) : Prop := (a = 625 ∧ k = 5) ∨ ((a = 627 ∨ a = 628 ∨ a = 629 ∨ a = 630) ∧ T ≤ k)
def vt_q1 (T : Nat) (kr cr pl vr : Int) (h h1 : ve_H) : Prop := vx_fr (vt_R T) h h1 ∧ vx_J h1 625 5 = (T : Int) + 1 ∧ vx_J h1 627 T = kr ∧ vx_J h1 629 T = cr ∧ vx_J h1 628 T = pl ∧ vx_K h1 630 T = vr
theorem vt_tr_fr {T : Nat} {h h1 : ve_H} {n : Nat} {c : Nat → Int} (X : vt_tr h n c) (f : vx_fr (vt_R T) h h1) : vt_tr h1 n c :=
  ⟨(vx_fr_J f (by omega)).trans X.1, X.2.1, fun i hi => ⟨(vx_fr_J f (by omega)).trans (X.2.2 i hi).1, (X.2.2 i hi).2⟩⟩
/-- a value with its letters moved to the highest of six places -/
def vt_lf (v : Int) : Int := if v < 256 then v * 1099511627776 else if v < 65536 then v * 4294967296 else if v < 16777216 then v * 16777216 else if v < 4294967296 then v * 65536 else if v < 1099511627776 then v * 256 else v
abbrev vt_vs (v : Int) : Prop := 1 ≤ v ∧ v < 281474976710656 ∧ v % 256 ≠ 0
theorem vt_lf_inj {v w : Int} (hv : vt_vs v) (hw : vt_vs w) (e : vt_lf v = vt_lf w) : v = w := by
  unfold vt_lf at e
  split at e <;> (repeat (first | omega | (split at e)))
/-- the letters from i on, the last one lowest -/
def vt_rf (c : Nat → Int) : Nat → Nat → Int → Int
  | 0, _, a => a
  | k + 1, i, a => vt_rf c k (i + 1) (a * 256 + c i)
theorem vt_rf_snoc {c : Nat → Int} : ∀ (k i : Nat) (a : Int), vt_rf c (k + 1) i a = vt_rf c k i a * 256 + c (i + k)
  | 0, i, a => rfl
  | k + 1, i, a => by
    have := vt_rf_snoc (c := c) k (i + 1) (a * 256 + c i)
    rw [show i + (k + 1) = i + 1 + k by omega]
    exact this
theorem vt_num_snoc {c : Nat → Int} : ∀ (k i : Nat) (a : Int), vt_num c (k + 1) i a = vt_num c k i a * 10 + (c (i + k) - 48)
  | 0, i, a => rfl
  | k + 1, i, a => by
    have := vt_num_snoc (c := c) k (i + 1) (a * 10 + (c i - 48))
    rw [show i + (k + 1) = i + 1 + k by omega]
    exact this
theorem vt_pk_z {c : Nat → Int} {e : Nat} : ∀ (k i : Nat) (a : Int), e ≤ i → vt_pk c e k i a = a * 256 ^ k
  | 0, i, a, _ => by
    show a = a * 256 ^ 0
    rw [Int.pow_zero, Int.mul_one]
  | k + 1, i, a, h => by
    have hb : Nat.blt i e = false := by
      cases hb : Nat.blt i e with
      | false => rfl
      | true => have := Nat.le_of_ble_eq_true hb; omega
    show vt_pk c e k (i + 1) (a * 256 + (bif Nat.blt i e then c i else 0)) = _
    rw [hb]
    show vt_pk c e k (i + 1) (a * 256 + 0) = _
    rw [vt_pk_z k (i + 1) _ (by omega), Int.add_zero, Int.pow_succ, Int.mul_comm (256 ^ k) 256, Int.mul_assoc]
theorem vt_pk_rf {c : Nat → Int} {e : Nat} : ∀ (m k i : Nat) (a : Int), i + m = e → m ≤ k → vt_pk c e k i a = vt_rf c m i a * 256 ^ (k - m)
  | 0, k, i, a, h, _ => vt_pk_z k i a (by omega)
  | m + 1, 0, i, a, h, hk => absurd hk (by omega)
  | m + 1, k + 1, i, a, h, hk => by
    have hb : Nat.blt i e = true := Nat.ble_eq_true_of_le (by omega)
    show vt_pk c e k (i + 1) (a * 256 + (bif Nat.blt i e then c i else 0)) = _
    rw [hb]
    show vt_pk c e k (i + 1) (a * 256 + c i) = vt_rf c m (i + 1) (a * 256 + c i) * 256 ^ (k + 1 - (m + 1))
    rw [vt_pk_rf m k (i + 1) _ (by omega) (by omega), show k + 1 - (m + 1) = k - m by omega]
theorem vt_rf_r {c : Nat → Int} : ∀ (m i : Nat), (∀ j, i ≤ j → j < i + m → 32 ≤ c j ∧ c j ≤ 126) → 0 ≤ vt_rf c m i 0 ∧ vt_rf c m i 0 < 256 ^ m
  | 0, i, _ => (by decide : (0 : Int) ≤ 0 ∧ (0 : Int) < 256 ^ 0)
  | m + 1, i, h => by
    have h1 := vt_rf_r m i (fun j a b => h j a (by omega))
    have h2 := h (i + m) (by omega) (by omega)
    rw [vt_rf_snoc, Int.pow_succ]
    generalize (256 : Int) ^ m = p at *
    omega
theorem vt_rf_lo {c : Nat → Int} : ∀ (m i : Nat), (∀ j, i ≤ j → j < i + (m + 1) → 32 ≤ c j ∧ c j ≤ 126) → 256 ^ m ≤ vt_rf c (m + 1) i 0 ∧ vt_rf c (m + 1) i 0 % 256 ≠ 0
  | 0, i, h => by
    have h2 := h i (by omega) (by omega)
    show 256 ^ 0 ≤ (0 : Int) * 256 + c i ∧ ((0 : Int) * 256 + c i) % 256 ≠ 0
    rw [Int.pow_zero]
    omega
  | m + 1, i, h => by
    have h1 := vt_rf_lo m i (fun j a b => h j a (by omega))
    have h2 := h (i + (m + 1)) (by omega) (by omega)
    rw [vt_rf_snoc, Int.pow_succ]
    generalize (256 : Int) ^ m = p at *
    omega
/-- a name of the class's, and of the reference's -/
theorem vt_nm_lf {c : Nat → Int} {e i : Nat} (h1 : i < e) (h6 : e ≤ i + 6) (hc : ∀ j, i ≤ j → j < e → 32 ≤ c j ∧ c j ≤ 126) : vt_nm c e i = 72057594037927936 + vt_lf (vt_rf c (e - i) i 0) ∧ vt_vs (vt_rf c (e - i) i 0) := by
  have hr := vt_rf_r (c := c) (e - i) i (fun j a b => hc j a (by omega))
  have hl := vt_rf_lo (c := c) (e - i - 1) i (fun j a b => hc j a (by omega))
  rw [show e - i - 1 + 1 = e - i by omega] at hl
  have hp := vt_pk_rf (c := c) (e := e) (e - i) 6 i 0 (by omega) (by omega)
  unfold vt_nm
  rw [hp]
  have hk : 1 ≤ e - i ∧ e - i ≤ 6 := by omega
  generalize e - i = k at *
  generalize vt_rf c k i 0 = v at *
  unfold vt_lf
  match k, hk with
  | 0, hk => omega
  | 1, _ =>
    have h1 : v < 256 := hr.2
    rw [if_pos h1]
    exact ⟨rfl, by omega⟩
  | 2, _ =>
    have h1 : v < 65536 := hr.2
    have h2 : 256 ≤ v := hl.1
    rw [if_neg (by omega), if_pos h1]
    exact ⟨rfl, by omega⟩
  | 3, _ =>
    have h1 : v < 16777216 := hr.2
    have h2 : 65536 ≤ v := hl.1
    rw [if_neg (by omega), if_neg (by omega), if_pos h1]
    exact ⟨rfl, by omega⟩
  | 4, _ =>
    have h1 : v < 4294967296 := hr.2
    have h2 : 16777216 ≤ v := hl.1
    rw [if_neg (by omega), if_neg (by omega), if_neg (by omega), if_pos h1]
    exact ⟨rfl, by omega⟩
  | 5, _ =>
    have h1 : v < 1099511627776 := hr.2
    have h2 : 4294967296 ≤ v := hl.1
    rw [if_neg (by omega), if_neg (by omega), if_neg (by omega), if_neg (by omega), if_pos h1]
    exact ⟨rfl, by omega⟩
  | 6, _ =>
    have h1 : v < 281474976710656 := hr.2
    have h2 : 1099511627776 ≤ v := hl.1
    rw [if_neg (by omega), if_neg (by omega), if_neg (by omega), if_neg (by omega), if_neg (by omega)]
    refine ⟨?_, by omega⟩
    show 72057594037927936 + v * 1 = _
    rw [Int.mul_one]
  | k + 7, hk => omega
/-- a token of the class's (its kind and content) and of the reference's (kind, code, value) -/
def vt_rt (kd ct kr cr vr : Int) : Prop := (kd = 0 → kr = 0) ∧ (kd = 1 → kr = 6) ∧ (kd = 2 → kr = 1 ∧ vt_vs vr ∧ ct = 72057594037927936 + vt_lf vr) ∧ (kd = 3 → kr = 2 ∧ vt_vs vr ∧ ct = 72057594037927936 + vt_lf vr) ∧ (kd = 4 → kr = 3 ∧ vr = ct ∧ 0 ≤ vr ∧ vr < 1000000000) ∧ (5 ≤ kd ∧ kd ≤ 9 → kr = 5 ∧ cr = kd - 4) ∧ (10 ≤ kd ∧ kd ≤ 13 → kr = 4 ∧ cr = kd + 290) ∧ (14 ≤ kd → kr = 4 ∧ cr = kd ∧ kd ≤ 126) ∧ 0 ≤ kd ∧ (kd < 14 ∨ vt_sg kd)
section
variable {d : Nat} {h : ve_H} {x y z : Int}
theorem vc_27 {T : Nat} {x1 x2 x3 x4 : Int} (hT : vx_T 625 672 h) (ht : vx_J h 625 5 = T) (hn : T < 602) (h1 : vx_rI x1) (h2 : vx_rI x2) (h3 : vx_rI x3) (h4 : vx_rL x4) : vx_CV d 27 [.ref 625, .int (vx_i x1), .int (vx_i x2), .int (vx_i x3), .long (vx_l x4)] h (vt_q1 T x1 x2 x3 x4 h) := by
  refine vg_27 hT ?_
  rw [ht, Int.toNat_natCast]
  refine ⟨by omega, fun g2 e2 T2 => ?_⟩
  have t2 : vx_J g2 625 5 = T := by rw [e2, vx_J_ne (by omega), ht]
  rw [t2, Int.toNat_natCast]
  refine ⟨by omega, fun g4 e4 T4 => ?_⟩
  have t4 : vx_J g4 625 5 = T := by rw [e4, vx_J_ne (by omega), t2]
  rw [t4, Int.toNat_natCast]
  refine ⟨by omega, fun g6 e6 T6 => ?_⟩
  have t6 : vx_J g6 625 5 = T := by rw [e6, vx_J_ne (by omega), t4]
  rw [t6, Int.toNat_natCast]
  refine ⟨by omega, fun g8 e8 T8 g9 e9 T9 => ?_⟩
  have t8 : vx_J g8 625 5 = T := by rw [e8, vx_J_sK, t6]
  rw [t8] at e9
  refine ⟨vx_fr_sJ (vx_fr_sK (vx_fr_sJ (vx_fr_sJ (vx_fr_sJ vx_fr_refl e2 (by omega)) e4 (by omega)) e6 (by omega)) e8 (by omega)) e9 (by omega), ?_, ?_, ?_, ?_, ?_⟩
  · rw [e9, vx_J_eq (by omega)]
  · rw [e9, vx_J_ne (by omega), e8, vx_J_sK, e6, vx_J_ne (by omega), e4, vx_J_ne (by omega), e2, vx_J_eq h1]
  · rw [e9, vx_J_ne (by omega), e8, vx_J_sK, e6, vx_J_ne (by omega), e4, vx_J_eq h2]
  · rw [e9, vx_J_ne (by omega), e8, vx_J_sK, e6, vx_J_eq h3]
  · rw [e9, vx_K_sJ, e8, vx_K_eq h4]
theorem vc_23 (hT : vx_T 625 672 h) (hx : vx_rI x) : vx_CI d 23 [.int (vx_i x)] h (fun r h1 => h1 = h ∧ ((r = 1 ∧ 48 ≤ x ∧ x ≤ 57) ∨ (r = 0 ∧ ¬ (48 ≤ x ∧ x ≤ 57)))) :=
  vg_23 hT ⟨hx, fun q => ⟨rfl, by omega⟩, fun q => ⟨fun q2 => ⟨rfl, by omega⟩, fun q2 => ⟨rfl, by omega⟩⟩⟩
theorem vc_24 (hT : vx_T 625 672 h) (hx : vx_rI x) : vx_CI d 24 [.int (vx_i x)] h (fun r h1 => h1 = h ∧ ((r = 1 ∧ 97 ≤ x ∧ x ≤ 122) ∨ (r = 0 ∧ ¬ (97 ≤ x ∧ x ≤ 122)))) :=
  vg_24 hT ⟨hx, fun q => ⟨rfl, by omega⟩, fun q => ⟨fun q2 => ⟨rfl, by omega⟩, fun q2 => ⟨rfl, by omega⟩⟩⟩
theorem vc_25 (hT : vx_T 625 672 h) (hx : vx_rI x) : vx_CI d 25 [.int (vx_i x)] h (fun r h1 => h1 = h ∧ ((r = 1 ∧ 65 ≤ x ∧ x ≤ 90) ∨ (r = 0 ∧ ¬ (65 ≤ x ∧ x ≤ 90)))) :=
  vg_25 hT ⟨hx, fun q => ⟨rfl, by omega⟩, fun q => ⟨fun q2 => ⟨rfl, by omega⟩, fun q2 => ⟨rfl, by omega⟩⟩⟩
theorem vc_26 (hT : vx_T 625 672 h) (hx : vx_rI x) : vx_CI (d + 1) 26 [.int (vx_i x)] h (fun r h1 => h1 = h ∧ ((r = 1 ∧ ((97 ≤ x ∧ x ≤ 122) ∨ (65 ≤ x ∧ x ≤ 90) ∨ (48 ≤ x ∧ x ≤ 57))) ∨ (r = 0 ∧ ¬ ((97 ≤ x ∧ x ≤ 122) ∨ (65 ≤ x ∧ x ≤ 90) ∨ (48 ≤ x ∧ x ≤ 57))))) := by
  refine vg_26 hT (vx_CI_mono (vc_24 hT hx) ?_)
  rintro r1 h1 _ ⟨rfl, q1⟩ -
  refine ⟨fun q => ⟨rfl, by omega⟩, fun q => vx_CI_mono (vc_25 hT hx) ?_⟩
  rintro r3 h3 _ ⟨rfl, q3⟩ -
  refine ⟨fun q => ⟨rfl, by omega⟩, fun q => vx_CI_mono (vc_23 hT hx) ?_⟩
  rintro r5 h5 _ ⟨rfl, q5⟩ -
  exact ⟨fun q => ⟨rfl, by omega⟩, fun q => ⟨rfl, by omega⟩⟩
theorem vc_22 {n k : Nat} {c : Nat → Int} (hT : vx_T 625 672 h) (X : vt_tr h n c) (hy : y = k) (hk : k ≤ 1000) : vx_CI d 22 [.ref 625, .int (vx_i y)] h (fun r h1 => h1 = h ∧ r = vt_see c n k ∧ (r = 0 ∨ (32 ≤ r ∧ r ≤ 126))) := by
  have hn := X.2.1
  refine vg_22 hT ?_
  rw [X.1]
  unfold vt_see
  refine ⟨by omega, fun q => ⟨rfl, ?_, Or.inl rfl⟩, fun q => ⟨by omega, ?_⟩⟩
  · rw [if_neg (by omega)]
  · have hc := X.2.2 k (by omega)
    rw [show y.toNat = k by omega, hc.1, if_pos (by omega)]
    exact ⟨rfl, rfl, Or.inr hc.2⟩
end
theorem vx_lor8 {v r : Int} (hv : 0 ≤ v ∧ v < 281474976710656) (hr : 0 ≤ r ∧ r < 256) : vx_lor (vx_lshl v 8) r = v * 256 + r := by
  have hs : (vx_l v <<< ((vx_i 8).toInt64 &&& 63)).toBitVec = BitVec.ofNat 64 (v.toNat * 256) := by
    have e : (vx_l v <<< ((vx_i 8).toInt64 &&& 63)).toBitVec = (vx_l v).toBitVec <<< (((vx_i 8).toInt64 &&& 63).toBitVec.smod 64) := Int64.toBitVec_shiftLeft ..
    have e2 : (((vx_i 8).toInt64 &&& 63).toBitVec.smod 64) = 8#64 := by decide
    have e3 : (vx_l v).toBitVec = BitVec.ofNat 64 v.toNat := by
      show BitVec.ofInt 64 v = _
      rw [← Int.toNat_of_nonneg hv.1]
      rfl
    rw [e, e2, e3]
    apply BitVec.eq_of_toNat_eq
    show (BitVec.ofNat 64 v.toNat <<< (8 : Nat)).toNat = _
    rw [BitVec.toNat_shiftLeft, BitVec.toNat_ofNat, BitVec.toNat_ofNat]
    show (v.toNat % 2 ^ 64) <<< 8 % 2 ^ 64 = v.toNat * 256 % 2 ^ 64
    rw [Nat.shiftLeft_eq]
    omega
  have hl : vx_lshl v 8 = v * 256 := by
    unfold vx_lshl
    show (vx_l v <<< ((vx_i 8).toInt64 &&& 63)).toBitVec.toInt = _
    rw [hs, BitVec.toInt_eq_toNat_cond, BitVec.toNat_ofNat, Nat.mod_eq_of_lt (by omega)]
    split <;> omega
  unfold vx_lor
  rw [hl]
  have ha : (vx_l (v * 256)).toBitVec = BitVec.ofNat 64 (v.toNat * 256) := by
    show BitVec.ofInt 64 (v * 256) = _
    rw [show v * 256 = ((v.toNat * 256 : Nat) : Int) by omega]
    rfl
  have hb : (vx_l r).toBitVec = BitVec.ofNat 64 r.toNat := by
    show BitVec.ofInt 64 r = _
    rw [← Int.toNat_of_nonneg hr.1]
    rfl
  have ho : (vx_l (v * 256) ||| vx_l r).toBitVec = (vx_l (v * 256)).toBitVec ||| (vx_l r).toBitVec := Int64.toBitVec_or ..
  show (vx_l (v * 256) ||| vx_l r).toBitVec.toInt = _
  rw [ho, ha, hb]
  have hn : (BitVec.ofNat 64 (v.toNat * 256) ||| BitVec.ofNat 64 r.toNat).toNat = v.toNat * 256 + r.toNat := by
    rw [BitVec.toNat_or, BitVec.toNat_ofNat, BitVec.toNat_ofNat, Nat.mod_eq_of_lt (by omega), Nat.mod_eq_of_lt (by omega)]
    have := Nat.two_pow_add_eq_or_of_lt (i := 8) (b := r.toNat) (by omega) v.toNat
    rw [Nat.mul_comm v.toNat 256]
    exact this.symm
  rw [BitVec.toInt_eq_toNat_cond, hn]
  split <;> omega
