/-! Values: the reference's order is the class's -/
theorem vx_lshl8 {v : Int} (hv : 0 ≤ v ∧ v < 281474976710656) : vx_lshl v 8 = v * 256 := by
  have hs : (vx_l v <<< ((vx_i 8).toInt64 &&& 63)).toBitVec = BitVec.ofNat 64 (v.toNat * 256) := by
    have e : (vx_l v <<< ((vx_i 8).toInt64 &&& 63)).toBitVec = (vx_l v).toBitVec <<< (((vx_i 8).toInt64 &&& 63).toBitVec.smod 64) := Int64.toBitVec_shiftLeft ..
    have e2 : (((vx_i 8).toInt64 &&& 63).toBitVec.smod 64) = 8#64 := by decide
    have e3 : (vx_l v).toBitVec = BitVec.ofNat 64 v.toNat := by
      show BitVec.ofInt 64 v = _
      rw [← Int.toNat_of_nonneg hv.1]
      rfl
    rw [e, e2, e3]
    apply BitVec.eq_of_toNat_eq
    show (BitVec.ofNat 64 v.toNat <<< (8 : Nat)).toNat = _
    rw [BitVec.toNat_shiftLeft, BitVec.toNat_ofNat, BitVec.toNat_ofNat]
    show (v.toNat % 2 ^ 64) <<< 8 % 2 ^ 64 = v.toNat * 256 % 2 ^ 64
    rw [Nat.shiftLeft_eq]
    omega
  unfold vx_lshl
  show (vx_l v <<< ((vx_i 8).toInt64 &&& 63)).toBitVec.toInt = _
  rw [hs, BitVec.toInt_eq_toNat_cond, BitVec.toNat_ofNat, Nat.mod_eq_of_lt (by omega)]
  split <;> omega
theorem vx_land56 {u : Int} (hu : 0 ≤ u ∧ u < 281474976710656) : vx_land (72057594037927936 + u) 72057594037927935 = u := by
  have ha : (vx_l (72057594037927936 + u)).toBitVec = BitVec.ofNat 64 (72057594037927936 + u.toNat) := by
    show BitVec.ofInt 64 (72057594037927936 + u) = _
    rw [show (72057594037927936 + u) = ((72057594037927936 + u.toNat : Nat) : Int) by omega]
    rfl
  have hb : (vx_l 72057594037927935).toBitVec = BitVec.ofNat 64 (2 ^ 56 - 1) := by decide
  have ho : (vx_l (72057594037927936 + u) &&& vx_l 72057594037927935).toBitVec = (vx_l (72057594037927936 + u)).toBitVec &&& (vx_l 72057594037927935).toBitVec := Int64.toBitVec_and ..
  show (vx_l (72057594037927936 + u) &&& vx_l 72057594037927935).toBitVec.toInt = _
  rw [ho, ha, hb]
  have hn : (BitVec.ofNat 64 (72057594037927936 + u.toNat) &&& BitVec.ofNat 64 (2 ^ 56 - 1)).toNat = u.toNat := by
    rw [BitVec.toNat_and, BitVec.toNat_ofNat, BitVec.toNat_ofNat, Nat.mod_eq_of_lt (show 72057594037927936 + u.toNat < 2 ^ 64 by omega), Nat.mod_eq_of_lt (show 2 ^ 56 - 1 < 2 ^ 64 by decide), Nat.and_two_pow_sub_one_eq_mod]
    omega
  rw [BitVec.toInt_eq_toNat_cond, hn]
  split <;> omega
theorem vt_lf8 {v : Int} (h : 1 ≤ v ∧ v < 1099511627776) : vt_lf (v * 256) = vt_lf v := by
  unfold vt_lf
  by_cases h1 : v < 256
  · rw [if_pos h1, if_neg (by omega), if_pos (by omega)]; omega
  by_cases h2 : v < 65536
  · rw [if_neg h1, if_pos h2, if_neg (by omega), if_neg (by omega), if_pos (by omega)]; omega
  by_cases h3 : v < 16777216
  · rw [if_neg h1, if_neg h2, if_pos h3, if_neg (by omega), if_neg (by omega), if_neg (by omega), if_pos (by omega)]; omega
  by_cases h4 : v < 4294967296
  · rw [if_neg h1, if_neg h2, if_neg h3, if_pos h4, if_neg (by omega), if_neg (by omega), if_neg (by omega), if_neg (by omega), if_pos (by omega)]; omega
  · rw [if_neg h1, if_neg h2, if_neg h3, if_neg h4, if_pos h.2, if_neg (by omega), if_neg (by omega), if_neg (by omega), if_neg (by omega), if_neg (by omega)]
theorem vt_lfh {v : Int} (h : 1099511627776 ≤ v) : vt_lf v = v := by
  unfold vt_lf
  rw [if_neg (by omega), if_neg (by omega), if_neg (by omega), if_neg (by omega), if_neg (by omega)]
/-- what is known of a value's two forms -/
theorem vy_vr_l {a x : Int} (A : vy_vr a x) : vx_rL x ∧ vx_rL a ∧ a < 144115188075855872 ∧ x < 144115188075855872 := by
  rcases A with ⟨h1, h2, h3⟩ | ⟨u, hu, h1, h2⟩
  · omega
  · have := vt_lf_r hu
    have := hu.1
    have := hu.2.1
    omega
theorem vy_vr_n {a x : Int} (A : vy_vr a x) : (x < 72057594037927936 ↔ a < 72057594037927936) ∧ (a < 72057594037927936 → a = x ∧ vx_rI x) := by
  rcases A with ⟨h1, h2, h3⟩ | ⟨u, hu, h1, h2⟩
  · omega
  · have := vt_lf_r hu
    have := hu.1
    have := hu.2.1
    omega
theorem vy_vr_eq {a b x y : Int} (A : vy_vr a x) (B : vy_vr b y) : x = y ↔ a = b := by
  rcases A with ⟨h1, h2, h3⟩ | ⟨u, hu, h1, h2⟩
  · rcases B with ⟨g1, g2, g3⟩ | ⟨w, hw, g1, g2⟩
    · omega
    · have := vt_lf_r hw
      have := hw.1
      omega
  · rcases B with ⟨g1, g2, g3⟩ | ⟨w, hw, g1, g2⟩
    · have := vt_lf_r hu
      have := hu.1
      omega
    · constructor
      · intro e
        have : u = w := by omega
        rw [h2, g2, this]
      · intro e
        have : u = w := vt_lf_inj hu hw (by omega)
        rw [h1, g1, this]
section
variable {d : Nat} {h : ve_H} {a b x y : Int}
theorem vc_65_6 {v0 : Int} (hT : vx_T 625 672 h) : ∀ (n : Nat) (v : Int), 1 ≤ v → v < 281474976710656 → 1099511627776 ≤ v * 256 ^ n → vx_W d 65 6 [some (.long (vx_l v0)), none, some (.long (vx_l v)), none] [] h (vx_RL (fun r h1 => h1 = h ∧ r = vt_lf v))
  | 0, v, h1, h2, h3 => by
    have h4 : 1099511627776 ≤ v := by rw [Int.pow_zero, Int.mul_one] at h3; exact h3
    exact vg_65_6 hT ⟨by omega, fun _ => ⟨rfl, (vt_lfh h4).symm⟩, fun q => absurd q (by omega)⟩
  | n + 1, v, h1, h2, h3 => by
    refine vg_65_6 hT ⟨by omega, fun q => ⟨rfl, (vt_lfh q).symm⟩, fun q => ?_⟩
    rw [vx_lshl8 ⟨by omega, h2⟩, ← vt_lf8 ⟨h1, q⟩]
    refine vc_65_6 hT n (v * 256) (by omega) (by omega) ?_
    rw [Int.mul_assoc, ← Int.mul_comm (256 ^ n), ← Int.pow_succ]
    exact h3
theorem vc_65 {u : Int} (hT : vx_T 625 672 h) (hu : vt_vs u) (hx : x = 72057594037927936 + u) : vx_CL d 65 [.long (vx_l x)] h (fun r h1 => h1 = h ∧ r = vt_lf u) := by
  refine vg_65 hT ?_
  rw [hx, vx_land56 ⟨by have := hu.1; omega, hu.2.1⟩]
  refine vc_65_6 hT 6 u hu.1 hu.2.1 ?_
  have := hu.1
  have e : (256 : Int) ^ 6 = 281474976710656 := by decide
  rw [e]
  omega
theorem vc_66 (hT : vx_T 625 672 h) (hx : vx_rL x) : vx_CI d 66 [.long (vx_l x)] h (fun r h1 => h1 = h ∧ ((r = 0 ∧ x < 72057594037927936) ∨ (r = 1 ∧ 72057594037927936 ≤ x))) :=
  vg_66 hT ⟨hx, fun q => ⟨rfl, Or.inl ⟨rfl, q⟩⟩, fun q => ⟨rfl, Or.inr ⟨rfl, q⟩⟩⟩
theorem vc_67 (hT : vx_T 625 672 h) (A : vy_vr a x) (B : vy_vr b y) : vx_CI (d + 1) 67 [.long (vx_l x), .long (vx_l y)] h (fun r h1 => h1 = h ∧ ((r = -1 ∧ a < b) ∨ (r = 0 ∧ a = b) ∨ (r = 1 ∧ b < a))) := by
  have ax := vy_vr_l A
  have by_ := vy_vr_l B
  have an := vy_vr_n A
  have bn := vy_vr_n B
  refine vg_67 hT (vx_CI_mono (vc_66 hT ax.1) ?_)
  rintro r1 h1 _ ⟨rfl, q1⟩ -
  refine vx_CI_mono (vc_66 hT by_.1) ?_
  rintro r2 h2 _ ⟨rfl, q2⟩ -
  refine ⟨fun q => vx_CI_mono (vc_66 hT ax.1) ?_, fun q => vx_CI_mono (vc_66 hT by_.1) ?_⟩
  · rintro r4 h4 _ ⟨rfl, q4⟩ -
    refine ⟨fun q5 => vx_CI_mono (vc_66 hT by_.1) ?_, fun q5 => ?_⟩
    · rintro r6 h6 _ ⟨rfl, q6⟩ -
      refine ⟨fun q7 => ⟨ax.1, by_.1, fun q8 => ⟨fun q9 => ⟨rfl, by omega⟩, fun q9 => ⟨rfl, by omega⟩⟩, fun q8 => ⟨rfl, by omega⟩⟩, fun q7 => absurd q7 (by omega)⟩
    · rcases A with ⟨e1, e2, e3⟩ | ⟨u, hu, e1, e2⟩
      · exfalso; omega
      refine vx_CL_mono (vc_65 hT hu e1) ?_
      rintro r16 h16 _ ⟨rfl, e16⟩ -
      refine vx_CI_mono (vc_66 hT by_.1) ?_
      rintro r17 h17 _ ⟨rfl, q17⟩ -
      refine ⟨fun q7 => absurd q7 (by omega), fun q7 => ?_⟩
      rcases B with ⟨g1, g2, g3⟩ | ⟨w, hw, g1, g2⟩
      · exfalso; omega
      refine vx_CL_mono (vc_65 hT hw g1) ?_
      rintro r22 h22 _ ⟨rfl, e22⟩ -
      exact ⟨fun q8 => ⟨fun q9 => ⟨rfl, by omega⟩, fun q9 => ⟨rfl, by omega⟩⟩, fun q8 => ⟨rfl, by omega⟩⟩
  · rintro r25 h25 _ ⟨rfl, q25⟩ -
    exact ⟨fun q5 => ⟨rfl, by omega⟩, fun q5 => ⟨rfl, by omega⟩⟩
end
