/-! One turn of the law's loop: from what each pair of calls gives to what the loop gives -/
theorem vx_JTL {L : Nat} {xs : Nat → Int32} {h : ve_H} (hT : vx_TL L xs h) (i : Nat) : vx_J h 0 i = (xs i).toInt := by
  show (ve_I h 0 i).toInt = _
  rw [hT.2.2.2 i]
theorem vx_TLT {L : Nat} {xs : Nat → Int32} {h : ve_H} (hT : vx_TL L xs h) : vx_T 625 672 h := vx_Tsub hT.1 (by decide) (by decide)
theorem vx_TLC {L : Nat} {xs : Nat → Int32} {h : ve_H} (hT : vx_TL L xs h) : vx_T 1 625 h := vx_Tsub hT.1 (by decide) (by decide)
section
variable {d L : Nat} {xs : Nat → Int32}
/-- calls that answer with an int at once -/
def vl_I (d L : Nat) (xs : Nat → Int32) (I' : ve_H → Prop) (mc mr : Nat) (args : List Value) (h : ve_H) : Prop :=
  vx_CI d mc (.ref 1 :: args) h (fun r h1 => vx_TL L xs h1 → vx_CI d mr (.ref 625 :: args) h1 (fun r2 h2 => vx_TL L xs h2 → r = r2 ∧ I' h2))
/-- calls that may throw, and answer with an int -/
def vl_X (d L : Nat) (xs : Nat → Int32) (I' : ve_H → Prop) (mc mr : Nat) (args : List Value) (h : ve_H) : Prop :=
  vx_CI d mc (.ref 1 :: (args ++ [.ref 672])) h (fun r h1 => vx_TL L xs h1 → vx_CI d mr (.ref 625 :: args) h1 (fun b h2 => vx_TL L xs h2 → vx_J h2 625 0 = r ∧ (r = 0 → vx_K h2 672 0 = b) ∧ I' h2))
def vl_Z (d L : Nat) (xs : Nat → Int32) (I' : ve_H → Prop) (mc mr : Nat) (args : List Value) (h : ve_H) : Prop :=
  vx_CI d mc (.ref 1 :: (args ++ [.ref 672])) h (fun r h1 => vx_TL L xs h1 → vx_CI d mr (.ref 625 :: args) h1 (fun b h2 => vx_TL L xs h2 → vx_J h2 625 0 = r ∧ (r = 0 → (b = 0 → vx_K h2 672 0 = 0) ∧ (b ≠ 0 → vx_K h2 672 0 = 1)) ∧ I' h2))
def vl_L (d L : Nat) (xs : Nat → Int32) (I' : ve_H → Prop) (mc mr : Nat) (args : List Value) (h : ve_H) : Prop :=
  vx_CI d mc (.ref 1 :: (args ++ [.ref 672])) h (fun r h1 => vx_TL L xs h1 → vx_CL d mr (.ref 625 :: args) h1 (fun b h2 => vx_TL L xs h2 → vx_J h2 625 0 = r ∧ (r = 0 → vx_K h2 672 0 = b) ∧ I' h2))
abbrev vl_a (xs : Nat → Int32) (i : Nat) : Value := .int (vx_i (xs i).toInt)
abbrev vl_w (xs : Nat → Int32) (i j : Nat) : Int := vx_lor (vx_lshl (xs i).toInt 32) (vx_land (xs j).toInt 4294967295)
theorem vl_turn {h : ve_H} {Q : ve_O → ve_H → Prop} {I' : ve_H → Prop} {k : Nat} {v5 v6 v7 : Option Value} (hL : L ≤ 10000) (hT : vx_TL L xs h)
    (c0 : vl_I d L xs I' 1 21 [.long (vx_l (vl_w xs (k + 1) (k + 2))), vl_a xs (k + 3)] h)
    (c1 : vl_X d L xs I' 209 62 [] h)
    (c2 : vl_Z d L xs I' 210 63 [vl_a xs (k + 1)] h)
    (c3 : vl_I d L xs I' 4 64 [vl_a xs (k + 1)] h)
    (c4 : vl_X d L xs I' 211 91 [] h)
    (c5 : vl_X d L xs I' 212 94 [] h)
    (c6 : vl_L d L xs I' 213 95 [vl_a xs (k + 1), vl_a xs (k + 2)] h)
    (c7 : vl_I d L xs I' 8 97 [vl_a xs (k + 1)] h)
    (c8 : vl_I d L xs I' 9 99 [vl_a xs (k + 1), vl_a xs (k + 2)] h)
    (c9 : vl_L d L xs I' 214 102 [vl_a xs (k + 1), vl_a xs (k + 2), vl_a xs (k + 3)] h)
    (c10 : vl_X d L xs I' 215 103 [vl_a xs (k + 1), vl_a xs (k + 2)] h)
    (c11 : I' h)
    (hk : (k : Int) ≤ (L : Int))
    (hq : (L : Int) - 4 < k → Q (.inl (some (.int (vx_i 1)))) h)
    (hn : ∀ h1 u5 u6 u7, (k : Int) ≤ (L : Int) - 4 → vx_TL L xs h1 → I' h1 → vx_W (d + 1) 216 23 [some (.ref 0), some (.ref 1), some (.ref 625), some (.ref 672), some (.int (vx_i ((k : Int) + 4))), u5, u6, u7] [] h1 Q) :
    vx_W (d + 1) 216 23 [some (.ref 0), some (.ref 1), some (.ref 625), some (.ref 672), some (.int (vx_i (k : Int))), v5, v6, v7] [] h Q := by
  have e0 : (k : Int).toNat = k := by omega
  have e1 : ((k : Int) + 1).toNat = k + 1 := by omega
  have e2 : ((k : Int) + 2).toNat = k + 2 := by omega
  have e3 : ((k : Int) + 3).toNat = k + 3 := by omega
  refine vg_law hL hT ⟨by omega, by omega, hq, fun hle => ⟨by omega, ?_⟩⟩
  have N : ∀ h1 u5 u6 u7, vx_TL L xs h1 → I' h1 → vx_W (d + 1) 216 23 [some (.ref 0), some (.ref 1), some (.ref 625), some (.ref 672), some (.int (vx_i ((k : Int) + 4))), u5, u6, u7] [] h1 Q := fun h1 u5 u6 u7 => hn h1 u5 u6 u7 hle
  rw [e1, e2, e3]
  refine ⟨fun _ => ⟨by omega, by omega, by omega, ?_⟩, fun _ => ?_, fun _ => ⟨by omega, ?_⟩, fun _ => ⟨by omega, ?_⟩, fun _ => ?_, fun _ => ?_, fun _ => ⟨by omega, by omega, ?_⟩, fun _ => ⟨by omega, ?_⟩, fun _ => ⟨by omega, by omega, ?_⟩, fun _ => ⟨by omega, by omega, by omega, ?_⟩, fun _ => ⟨by omega, by omega, ?_⟩, fun _ => N h _ _ _ hT c11⟩
  · rw [vx_JTL hT, vx_JTL hT, vx_JTL hT]
    refine vx_CI_mono c0 (fun r h1 _ c T1 => ⟨by omega, by omega, by omega, ?_⟩)
    rw [vx_JTL T1, vx_JTL T1, vx_JTL T1]
    refine vx_CI_mono (c T1) (fun r2 h2 _ c T2 => ?_)
    obtain ⟨rfl, i⟩ := c T2
    exact ⟨fun _ => N h2 _ _ _ T2 i, fun q => absurd rfl q⟩
  · refine vx_CI_mono c1 (fun r h1 _ c T1 => vx_CI_mono (c T1) (fun b h2 _ c T2 => vg_19 (vx_TLT T2) (fun T3 => ?_)))
    obtain ⟨a1, a2, i⟩ := c T2
    exact ⟨fun _ => ⟨fun _ => N h2 _ _ _ T2 i, fun q => ⟨fun _ => N h2 _ _ _ T2 i, fun p => absurd (a2 q) p⟩⟩, fun q => absurd a1 q⟩
  · rw [vx_JTL hT]
    refine vx_CI_mono c2 (fun r h1 _ c T1 => ⟨by omega, ?_⟩)
    rw [vx_JTL T1]
    refine vx_CI_mono (c T1) (fun b h2 _ c T2 => vg_19 (vx_TLT T2) (fun T3 => ?_))
    obtain ⟨a1, a2, i⟩ := c T2
    exact ⟨fun _ => ⟨fun _ => N h2 _ _ _ T2 i, fun q => ⟨fun b0 => ⟨fun _ => N h2 _ _ _ T2 i, fun p => absurd ((a2 q).1 b0) p⟩, fun b0 => ⟨fun _ => N h2 _ _ _ T2 i, fun p => absurd ((a2 q).2 b0) p⟩⟩⟩, fun q => absurd a1 q⟩
  · rw [vx_JTL hT]
    refine vx_CI_mono c3 (fun r h1 _ c T1 => ⟨by omega, ?_⟩)
    rw [vx_JTL T1]
    refine vx_CI_mono (c T1) (fun r2 h2 _ c T2 => ?_)
    obtain ⟨rfl, i⟩ := c T2
    exact ⟨fun _ => N h2 _ _ _ T2 i, fun q => absurd rfl q⟩
  · refine vx_CI_mono c4 (fun r h1 _ c T1 => vx_CI_mono (c T1) (fun b h2 _ c T2 => vg_19 (vx_TLT T2) (fun T3 => ?_)))
    obtain ⟨a1, a2, i⟩ := c T2
    exact ⟨fun _ => ⟨fun _ => N h2 _ _ _ T2 i, fun q => ⟨fun _ => N h2 _ _ _ T2 i, fun p => absurd (a2 q) p⟩⟩, fun q => absurd a1 q⟩
  · refine vx_CI_mono c5 (fun r h1 _ c T1 => vx_CI_mono (c T1) (fun b h2 _ c T2 => vg_19 (vx_TLT T2) (fun T3 => ?_)))
    obtain ⟨a1, a2, i⟩ := c T2
    exact ⟨fun _ => ⟨fun _ => N h2 _ _ _ T2 i, fun q => ⟨fun _ => N h2 _ _ _ T2 i, fun p => absurd (a2 q) p⟩⟩, fun q => absurd a1 q⟩
  · rw [vx_JTL hT, vx_JTL hT]
    refine vx_CI_mono c6 (fun r h1 _ c T1 => ⟨by omega, by omega, ?_⟩)
    rw [vx_JTL T1, vx_JTL T1]
    refine vx_CL_mono (c T1) (fun b h2 _ c T2 => vg_19 (vx_TLT T2) (fun T3 => ?_))
    obtain ⟨a1, a2, i⟩ := c T2
    exact ⟨fun _ => ⟨fun _ => N h2 _ _ _ T2 i, fun q => ⟨fun _ => N h2 _ _ _ T2 i, fun p => absurd (a2 q) p⟩⟩, fun q => absurd a1 q⟩
  · rw [vx_JTL hT]
    refine vx_CI_mono c7 (fun r h1 _ c T1 => ⟨by omega, ?_⟩)
    rw [vx_JTL T1]
    refine vx_CI_mono (c T1) (fun r2 h2 _ c T2 => ?_)
    obtain ⟨rfl, i⟩ := c T2
    exact ⟨fun _ => N h2 _ _ _ T2 i, fun q => absurd rfl q⟩
  · rw [vx_JTL hT, vx_JTL hT]
    refine vx_CI_mono c8 (fun r h1 _ c T1 => ⟨by omega, by omega, ?_⟩)
    rw [vx_JTL T1, vx_JTL T1]
    refine vx_CI_mono (c T1) (fun r2 h2 _ c T2 => ?_)
    obtain ⟨rfl, i⟩ := c T2
    exact ⟨fun _ => N h2 _ _ _ T2 i, fun q => absurd rfl q⟩
  · rw [vx_JTL hT, vx_JTL hT, vx_JTL hT]
    refine vx_CI_mono c9 (fun r h1 _ c T1 => ⟨by omega, by omega, by omega, ?_⟩)
    rw [vx_JTL T1, vx_JTL T1, vx_JTL T1]
    refine vx_CL_mono (c T1) (fun b h2 _ c T2 => vg_19 (vx_TLT T2) (fun T3 => ?_))
    obtain ⟨a1, a2, i⟩ := c T2
    exact ⟨fun _ => ⟨fun _ => N h2 _ _ _ T2 i, fun q => ⟨fun _ => N h2 _ _ _ T2 i, fun p => absurd (a2 q) p⟩⟩, fun q => absurd a1 q⟩
  · rw [vx_JTL hT, vx_JTL hT]
    refine vx_CI_mono c10 (fun r h1 _ c T1 => ⟨by omega, by omega, ?_⟩)
    rw [vx_JTL T1, vx_JTL T1]
    refine vx_CI_mono (c T1) (fun b h2 _ c T2 => vg_19 (vx_TLT T2) (fun T3 => ?_))
    obtain ⟨a1, a2, i⟩ := c T2
    exact ⟨fun _ => ⟨fun _ => N h2 _ _ _ T2 i, fun q => ⟨fun _ => N h2 _ _ _ T2 i, fun p => absurd (a2 q) p⟩⟩, fun q => absurd a1 q⟩
end
