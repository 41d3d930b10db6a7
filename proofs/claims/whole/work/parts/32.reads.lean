/-! Reads after writes; frames; the bytes of a long -/
theorem vx_J_sJ {h : ve_H} {a s b k : Nat} {x : Int} (hx : vx_rI x) : vx_J (vx_sJ h a s x) b k = if b = a ∧ k = s then x else vx_J h b k := by
  show (ve_I (ve_sI h a s (vx_i x)) b k).toInt = _
  rw [ve_I_sI]
  by_cases q : b = a ∧ k = s
  · rw [if_pos q, if_pos q, vx_i_toInt hx]
  · rw [if_neg q, if_neg q]; rfl
theorem vx_K_sK {h : ve_H} {a s b k : Nat} {x : Int} (hx : vx_rL x) : vx_K (vx_sK h a s x) b k = if b = a ∧ k = s then x else vx_K h b k := by
  show (ve_L (ve_sL h a s (vx_l x)) b k).toInt = _
  rw [ve_L_sL]
  by_cases q : b = a ∧ k = s
  · rw [if_pos q, if_pos q, vx_l_toInt hx]
  · rw [if_neg q, if_neg q]; rfl
theorem vx_J_ne {h : ve_H} {a s b k : Nat} {x : Int} (q : ¬ (b = a ∧ k = s)) : vx_J (vx_sJ h a s x) b k = vx_J h b k := by
  show (ve_I (ve_sI h a s (vx_i x)) b k).toInt = _
  rw [ve_I_sI, if_neg q]; rfl
theorem vx_K_ne {h : ve_H} {a s b k : Nat} {x : Int} (q : ¬ (b = a ∧ k = s)) : vx_K (vx_sK h a s x) b k = vx_K h b k := by
  show (ve_L (ve_sL h a s (vx_l x)) b k).toInt = _
  rw [ve_L_sL, if_neg q]; rfl
theorem vx_J_eq {h : ve_H} {a s : Nat} {x : Int} (hx : vx_rI x) : vx_J (vx_sJ h a s x) a s = x := by rw [vx_J_sJ hx, if_pos ⟨rfl, rfl⟩]
theorem vx_K_eq {h : ve_H} {a s : Nat} {x : Int} (hx : vx_rL x) : vx_K (vx_sK h a s x) a s = x := by rw [vx_K_sK hx, if_pos ⟨rfl, rfl⟩]
theorem vx_K_sJ (h : ve_H) (a s b k : Nat) (x : Int) : vx_K (vx_sJ h a s x) b k = vx_K h b k := rfl
theorem vx_J_sK (h : ve_H) (a s b k : Nat) (x : Int) : vx_J (vx_sK h a s x) b k = vx_J h b k := rfl
/-- all but the places of S is as it was; nothing is made -/
def vx_fr (S : Nat → Nat → Prop) (h h1 : ve_H) : Prop := (ve_n h1 = ve_n h ∧ ve_u h1 = ve_u h) ∧ ∀ a k, ¬ S a k → vx_J h1 a k = vx_J h a k ∧ vx_K h1 a k = vx_K h a k ∧ ve_R h1 a k = ve_R h a k
section
variable {S S1 S2 : Nat → Nat → Prop} {h h1 h2 : ve_H} {a s : Nat} {x : Int}
theorem vx_fr_refl : vx_fr S h h := ⟨⟨rfl, rfl⟩, fun _ _ _ => ⟨rfl, rfl, rfl⟩⟩
theorem vx_fr_mono (f : vx_fr S1 h h1) (hs : ∀ a k, S1 a k → S2 a k) : vx_fr S2 h h1 := ⟨f.1, fun a k q => f.2 a k (fun t => q (hs a k t))⟩
theorem vx_fr_trans (f : vx_fr S h h1) (g : vx_fr S h1 h2) : vx_fr S h h2 :=
  ⟨⟨g.1.1.trans f.1.1, g.1.2.trans f.1.2⟩, fun a k q => ⟨(g.2 a k q).1.trans (f.2 a k q).1, (g.2 a k q).2.1.trans (f.2 a k q).2.1, (g.2 a k q).2.2.trans (f.2 a k q).2.2⟩⟩
theorem vx_fr_sJ (f : vx_fr S h h1) (e : h2 = vx_sJ h1 a s x) (hs : S a s) : vx_fr S h h2 := by
  subst e
  refine vx_fr_trans f ⟨⟨rfl, rfl⟩, fun b k q => ⟨vx_J_ne (fun t => q (by rw [t.1, t.2]; exact hs)), rfl, rfl⟩⟩
theorem vx_fr_sK (f : vx_fr S h h1) (e : h2 = vx_sK h1 a s x) (hs : S a s) : vx_fr S h h2 := by
  subst e
  refine vx_fr_trans f ⟨⟨rfl, rfl⟩, fun b k q => ⟨rfl, vx_K_ne (fun t => q (by rw [t.1, t.2]; exact hs)), rfl⟩⟩
theorem vx_fr_J (f : vx_fr S h h1) {k : Nat} (q : ¬ S a k) : vx_J h1 a k = vx_J h a k := (f.2 a k q).1
theorem vx_fr_K (f : vx_fr S h h1) {k : Nat} (q : ¬ S a k) : vx_K h1 a k = vx_K h a k := (f.2 a k q).2.1
theorem vx_fr_R (f : vx_fr S h h1) {k : Nat} (q : ¬ S a k) : ve_R h1 a k = ve_R h a k := (f.2 a k q).2.2
end
theorem vx_b64 (b : BitVec 64) : (b &&& 255#64).toInt = b.toInt % 256 := by
  have h1 : (b &&& 255#64).toNat = b.toNat % 256 := by
    rw [BitVec.toNat_and]
    exact Nat.and_two_pow_sub_one_eq_mod b.toNat 8
  have h2 := b.isLt
  rw [BitVec.toInt_eq_toNat_cond, BitVec.toInt_eq_toNat_cond, h1]
  split <;> split <;> omega
theorem vx_b32 (b : BitVec 32) : (b &&& 255#32).toInt = b.toInt % 256 := by
  have h1 : (b &&& 255#32).toNat = b.toNat % 256 := by
    rw [BitVec.toNat_and]
    exact Nat.and_two_pow_sub_one_eq_mod b.toNat 8
  have h2 := b.isLt
  rw [BitVec.toInt_eq_toNat_cond, BitVec.toInt_eq_toNat_cond, h1]
  split <;> split <;> omega
/-- byte j of a long -/
def vx_by (w : Int) (j : Nat) : Int := w / 2 ^ (8 * j) % 256
theorem vx_by_r (w : Int) (j : Nat) : 0 ≤ vx_by w j ∧ vx_by w j < 256 := by
  unfold vx_by
  omega
theorem vx_land255 (x : Int) (hx : vx_rL x) : vx_land x 255 = x % 256 := by
  have h := vx_b64 (vx_l x).toBitVec
  have e : (vx_l x).toBitVec.toInt = x := vx_l_toInt hx
  rw [e] at h
  exact h
theorem vx_i_mod (x : Int) : (vx_i x).toInt % 256 = x % 256 := by
  have e : (vx_i x).toInt = x.bmod 4294967296 := Int32.toInt_ofInt
  rw [e, Int.bmod_def]
  split <;> omega
theorem vx_and255 (x : Int) : vx_and x 255 = x % 256 := by
  have h := vx_b32 (vx_i x).toBitVec
  have e : (vx_i x).toBitVec.toInt % 256 = x % 256 := vx_i_mod x
  rw [e] at h
  exact h
theorem vx_sh_at (x s : Int64) (n : Nat) (hs : (s.toBitVec.smod 64).toNat = n) : (x >>> s).toInt = x.toInt / 2 ^ n := by
  have h : (x >>> s).toBitVec = x.toBitVec.sshiftRight' (s.toBitVec.smod 64) := Int64.toBitVec_shiftRight ..
  have h2 : (x.toBitVec.sshiftRight n).toInt = x.toBitVec.toInt >>> n := BitVec.toInt_sshiftRight ..
  show (x >>> s).toBitVec.toInt = _
  rw [h]
  show (x.toBitVec.sshiftRight (s.toBitVec.smod 64).toNat).toInt = _
  rw [hs, h2, Int.shiftRight_eq_div_pow]
  rfl
theorem vx_8 {j : Int} (h : 0 ≤ j ∧ j ≤ 7) : j = 0 ∨ j = 1 ∨ j = 2 ∨ j = 3 ∨ j = 4 ∨ j = 5 ∨ j = 6 ∨ j = 7 := by omega
theorem vx_by_l {w j : Int} (hw : vx_rL w) (hj : 0 ≤ j ∧ j ≤ 7) : vx_land (vx_lshr w (8 * j)) 255 = vx_by w j.toNat := by
  have hl : vx_rL (vx_lshr w (8 * j)) := ⟨Int64.le_toInt _, Int64.toInt_lt _⟩
  rw [vx_land255 _ hl]
  unfold vx_by vx_lshr
  rcases vx_8 hj with rfl | rfl | rfl | rfl | rfl | rfl | rfl | rfl
  · rw [vx_sh_at _ _ 0 (by decide), vx_l_toInt hw]; rfl
  · rw [vx_sh_at _ _ 8 (by decide), vx_l_toInt hw]; rfl
  · rw [vx_sh_at _ _ 16 (by decide), vx_l_toInt hw]; rfl
  · rw [vx_sh_at _ _ 24 (by decide), vx_l_toInt hw]; rfl
  · rw [vx_sh_at _ _ 32 (by decide), vx_l_toInt hw]; rfl
  · rw [vx_sh_at _ _ 40 (by decide), vx_l_toInt hw]; rfl
  · rw [vx_sh_at _ _ 48 (by decide), vx_l_toInt hw]; rfl
  · rw [vx_sh_at _ _ 56 (by decide), vx_l_toInt hw]; rfl
theorem vx_ush_at (x : Int64) (s : UInt64) (n : Nat) (hs : s.toNat % 64 = n) (hn : n = 0 ∨ n = 8 ∨ n = 16 ∨ n = 24 ∨ n = 32 ∨ n = 40 ∨ n = 48 ∨ n = 56) : (x.toUInt64 >>> s).toInt64.toInt % 256 = x.toInt / 2 ^ n % 256 := by
  have h : (x.toUInt64 >>> s).toNat = x.toBitVec.toNat >>> (s.toNat % 64) := UInt64.toNat_shiftRight ..
  have h1 : (x.toUInt64 >>> s).toInt64.toInt = if 2 * (x.toUInt64 >>> s).toNat < 2 ^ 64 then ((x.toUInt64 >>> s).toNat : Int) else ((x.toUInt64 >>> s).toNat : Int) - (2 ^ 64 : Nat) := BitVec.toInt_eq_toNat_cond _
  have h2 : x.toInt = if 2 * x.toBitVec.toNat < 2 ^ 64 then (x.toBitVec.toNat : Int) else (x.toBitVec.toNat : Int) - (2 ^ 64 : Nat) := BitVec.toInt_eq_toNat_cond _
  have h3 := x.toBitVec.isLt
  rw [h1, h2, h, hs, Nat.shiftRight_eq_div_pow]
  generalize x.toBitVec.toNat = m at *
  clear h h1 h2 hs
  rcases hn with rfl | rfl | rfl | rfl | rfl | rfl | rfl | rfl <;> split <;> split <;> simp only [Int.natCast_ediv, Nat.reducePow, Int.reducePow] at * <;> omega
theorem vx_by_c {w j : Int} (hw : vx_rL w) (hj : 0 ≤ j ∧ j ≤ 7) : vx_and (vx_lushr w (8 * j)) 255 = vx_by w j.toNat := by
  rw [vx_and255]
  unfold vx_by vx_lushr
  rcases vx_8 hj with rfl | rfl | rfl | rfl | rfl | rfl | rfl | rfl
  · rw [vx_ush_at _ _ 0 (by decide) (by decide), vx_l_toInt hw]; rfl
  · rw [vx_ush_at _ _ 8 (by decide) (by decide), vx_l_toInt hw]; rfl
  · rw [vx_ush_at _ _ 16 (by decide) (by decide), vx_l_toInt hw]; rfl
  · rw [vx_ush_at _ _ 24 (by decide) (by decide), vx_l_toInt hw]; rfl
  · rw [vx_ush_at _ _ 32 (by decide) (by decide), vx_l_toInt hw]; rfl
  · rw [vx_ush_at _ _ 40 (by decide) (by decide), vx_l_toInt hw]; rfl
  · rw [vx_ush_at _ _ 48 (by decide) (by decide), vx_l_toInt hw]; rfl
  · rw [vx_ush_at _ _ 56 (by decide) (by decide), vx_l_toInt hw]; rfl
