/-! The start, and the whole script -/
def vk_l : List (Nat × Nat × Int) := [(1, 7, 0), (1, 8, 1), (1, 9, 0), (1, 10, 0), (1, 11, 0), (1, 12, 0), (2, 4, 0), (23, 0, 5), (23, 4, 0), (34, 0, 5), (39, 6, 0), (39, 7, 0), (39, 8, 0), (45, 0, 5), (45, 4, 0), (334, 0, 5), (617, 0, 8), (617, 4, 0), (621, 0, 8), (625, 2, 0), (625, 3, 0), (625, 4, 0), (625, 11, 0), (625, 31, 1), (625, 32, 0), (625, 36, 0), (625, 37, 0), (625, 38, 0), (625, 39, 0), (631, 0, 0), (635, 0, 0), (647, 0, 0)]
noncomputable def vk_z (hA : ve_H) (a n : Nat) : Bool := (List.range n).all (fun i => decide ((ve_I hA a i).toInt = 0))
noncomputable def vk_ok (hA : ve_H) : Bool := vk_l.all (fun t => decide ((ve_I hA t.1 t.2.1).toInt = t.2.2)) && (vk_z hA 42 16 && (vk_z hA 634 16 && (vk_z hA 46 512 && vk_z hA 618 512)))
set_option maxRecDepth 100000 in
theorem vk_closed : (match vx_two with | some h => vk_ok h | none => false) = true := by decide +kernel
section
variable {L : Nat} {xs : Nat → Int32} {h hA : ve_H}
theorem vk_at (e : vx_two = some hA) : vk_ok hA = true := by
  have h := vk_closed
  rw [e] at h
  exact h
theorem vk_J (e : vx_two = some hA) (M : ve_sm (fun a => a ≠ 0) (ve_h0 L xs) hA h) {a k : Nat} {v : Int} (hm : (a, k, v) ∈ vk_l) (ha : a ≠ 0) : vx_J h a k = v := by
  have t := vk_at e
  unfold vk_ok at t
  rw [Bool.and_eq_true] at t
  have t1 := of_decide_eq_true (List.all_eq_true.mp t.1 _ hm)
  show (ve_I h a k).toInt = v
  rw [← ((M.2.2.1 a ha).2.2 k).1]
  exact t1
theorem vk_0 (M : ve_sm (fun a => a ≠ 0) (ve_h0 L xs) hA h) {a n : Nat} (t : vk_z hA a n = true) (ha : a ≠ 0) : ∀ i, i < n → vx_J h a i = 0 := fun i hi => by
  unfold vk_z at t
  have t1 := of_decide_eq_true (List.all_eq_true.mp t i (List.mem_range.mpr hi))
  show (ve_I h a i).toInt = 0
  rw [← ((M.2.2.1 a ha).2.2 i).1]
  exact t1
theorem vk_zs (e : vx_two = some hA) : vk_z hA 42 16 = true ∧ vk_z hA 634 16 = true ∧ vk_z hA 46 512 = true ∧ vk_z hA 618 512 = true := by
  have t := vk_at e
  unfold vk_ok at t
  simp only [Bool.and_eq_true] at t
  exact t.2
/-- a table without rows -/
theorem vk_P {a w s : Nat} {rr : Nat → Nat → Int} (hw : vx_J h a 0 = (w : Nat)) (h4 : vx_J h a 4 = ((0 : Nat) : Int)) (e : vx_r a 2 = s) (z : ∀ i, i < 512 → vx_J h s i = 0) : vr_P a w 0 rr h := by
  refine ⟨hw, h4, by decide, fun i k hi => absurd hi (by omega), ⟨fun _ => 0, fun i hi => absurd hi (by omega), fun i hi q => ?_, fun i hi => absurd hi (by omega)⟩, fun i j hi => absurd hi (by omega)⟩
  rw [e] at q
  exact absurd (z i hi) q
/-- what holds at the start -/
theorem vi_I0 (e : vx_two = some hA) (M : ve_sm (fun a => a ≠ 0) (ve_h0 L xs) hA h) (S : vx_S0 L xs h) : vi_I h := by
  have J : ∀ {a k : Nat} {v : Int}, (a, k, v) ∈ vk_l → a ≠ 0 → vx_J h a k = v := fun hm ha => vk_J e M hm ha
  have zs := vk_zs e
  have z42 := vk_0 M zs.1 (by decide)
  have z634 := vk_0 M zs.2.1 (by decide)
  have z46 := vk_0 M zs.2.2.1 (by decide)
  have z618 := vk_0 M zs.2.2.2 (by decide)
  have o39 : vx_o 1 625 5 39 := ⟨by omega, by decide +kernel⟩
  have fK := vu_fK o39
  have r617 := (vm_ta (Or.inl rfl : (617 : Nat) = 617 ∨ (617 : Nat) = 621)).2.2
  have q1_7 : vx_J h 1 7 = 0 := J (by decide) (by decide)
  have q1_8 : vx_J h 1 8 = 1 := J (by decide) (by decide)
  have q1_9 : vx_J h 1 9 = 0 := J (by decide) (by decide)
  have q1_10 : vx_J h 1 10 = 0 := J (by decide) (by decide)
  have q1_11 : vx_J h 1 11 = 0 := J (by decide) (by decide)
  have q1_12 : vx_J h 1 12 = 0 := J (by decide) (by decide)
  have q2_4 : vx_J h 2 4 = 0 := J (by decide) (by decide)
  have q23_0 : vx_J h 23 0 = 5 := J (by decide) (by decide)
  have q23_4 : vx_J h 23 4 = 0 := J (by decide) (by decide)
  have q34_0 : vx_J h 34 0 = 5 := J (by decide) (by decide)
  have q39_6 : vx_J h 39 6 = 0 := J (by decide) (by decide)
  have q39_7 : vx_J h 39 7 = 0 := J (by decide) (by decide)
  have q39_8 : vx_J h 39 8 = 0 := J (by decide) (by decide)
  have q45_0 : vx_J h 45 0 = 5 := J (by decide) (by decide)
  have q45_4 : vx_J h 45 4 = 0 := J (by decide) (by decide)
  have q334_0 : vx_J h 334 0 = 5 := J (by decide) (by decide)
  have q617_0 : vx_J h 617 0 = 8 := J (by decide) (by decide)
  have q617_4 : vx_J h 617 4 = 0 := J (by decide) (by decide)
  have q621_0 : vx_J h 621 0 = 8 := J (by decide) (by decide)
  have q625_2 : vx_J h 625 2 = 0 := J (by decide) (by decide)
  have q625_3 : vx_J h 625 3 = 0 := J (by decide) (by decide)
  have q625_4 : vx_J h 625 4 = 0 := J (by decide) (by decide)
  have q625_11 : vx_J h 625 11 = 0 := J (by decide) (by decide)
  have q625_31 : vx_J h 625 31 = 1 := J (by decide) (by decide)
  have q625_32 : vx_J h 625 32 = 0 := J (by decide) (by decide)
  have q625_36 : vx_J h 625 36 = 0 := J (by decide) (by decide)
  have q625_37 : vx_J h 625 37 = 0 := J (by decide) (by decide)
  have q625_38 : vx_J h 625 38 = 0 := J (by decide) (by decide)
  have q625_39 : vx_J h 625 39 = 0 := J (by decide) (by decide)
  have q631_0 : vx_J h 631 0 = 0 := J (by decide) (by decide)
  have q635_0 : vx_J h 635 0 = 0 := J (by decide) (by decide)
  have q647_0 : vx_J h 647 0 = 0 := J (by decide) (by decide)
  have P : vi_P h 39 0 vu_S0 vu_S0 (fun _ => 0) := by
    refine ⟨S.2.2.2.2.1, ⟨⟨o39, q39_6, by decide, fun p hp => absurd (show p < 0 from hp) (by omega)⟩, q39_7, by decide, fun r hr => absurd (show r < 0 from hr) (by omega)⟩, fun p hp => z42 p hp, vk_P q45_0 q45_4 fK.2.2.1 z46, by decide, q39_8, fun p hp => Nat.zero_le _, ⟨⟨⟨by decide, q631_0, by decide, fun p hp => absurd (show p < 0 from hp) (by omega)⟩, q625_11⟩, q635_0, fun r hr => absurd (show r < 0 from hr) (by omega), fun p hp => ?_, q647_0, by decide, fun j hj => absurd (show j < 0 from hj) (by omega), fun i j hi => absurd (show i < 0 from hi) (by omega)⟩, vi_E_refl⟩
    rw [show 16 * 0 + p = p by omega]
    exact z634 p hp
  have pg : vm_pg vu_S0 (fun _ => 0) := ⟨vu_S0_w, fun r hr => absurd (show r < 0 from hr) (by omega), fun p hp => Nat.zero_le _, by decide, by decide⟩
  refine ⟨⟨39, 328, 0, vu_S0, vu_S0, fun _ => 0, P, S.2.2.2.2.2.1, Or.inl ⟨rfl, rfl⟩, ⟨pg, pg, fun r hr => absurd (show r < 0 from hr) (by omega), fun p hp => absurd (show p < 0 from hp) (by omega), by decide⟩, fun _ => ?_⟩, ⟨617, 621, 0, 0, fun _ _ => 0, fun _ => 0, ?_, S.2.2.2.2.2.2.2.1, Or.inl ⟨rfl, rfl⟩⟩, ⟨0, fun _ => 0, ⟨q2_4, by decide, fun i hi => absurd hi (by omega)⟩, q625_2, by decide, fun i hi => absurd hi (by omega)⟩, ⟨q23_0, q34_0, q617_0, q621_0, q45_0, q334_0⟩, ?_⟩
  · have lb : vm_lb vu_S0 (fun _ => 0) (vs_ns (fun _ => 0) vu_S0.1.1) 0 (fun _ _ => 0) (fun _ => 0) := ⟨fun f => ⟨fun q => absurd (show False from q) (fun t => t), fun ⟨i, hi, _⟩ => absurd hi (by omega)⟩, fun i hi => absurd hi (by omega), fun i hi => absurd hi (by omega)⟩
    exact ⟨0, fun _ _ => 0, fun _ => 0, fun _ => 0, 0, fun _ _ => 0, fun _ => 0, Or.inr ⟨rfl, rfl, q23_4⟩, by decide, lb, ⟨fun j hj => absurd hj (by omega), fun j k _ hk => absurd hk (by omega)⟩, fun j hj => absurd hj (by omega), ⟨q625_32, fun i hi => absurd hi (by omega), fun i j hi => absurd hi (by omega)⟩, by decide, lb⟩
  · exact ⟨S.2.2.2.2.2.2.1, Or.inl rfl, vk_P q617_0 q617_4 r617.2.1 z618, by decide, q1_7, by decide, fun j hj => absurd hj (by omega), q625_38, q625_39, fun j hj => absurd hj (by omega)⟩
  · exact ⟨Or.inr (Or.inl q1_8), by rw [q625_31, q1_8], by rw [q1_9]; decide, by rw [q625_36, q1_9], by rw [q1_10]; decide, by rw [q625_37, q1_10], by rw [q625_3, q1_11], by rw [q625_4, q1_12]⟩
/-- from a call to the end -/
theorem vi_loop (hL : L ≤ 2048) : ∀ (m j k : Nat) (h : ve_H) (v5 v6 v7 : Option Value), k = 4 * j → L ≤ k + 4 * m → k ≤ L → vx_TL L xs h → vi_I h → ve_n h ≤ 673 + j → ve_u h ≤ 38722 + 6 * j → vx_W 1000 216 23 [some (.ref 0), some (.ref 1), some (.ref 625), some (.ref 672), some (.int (vx_i (k : Int))), v5, v6, v7] [] h (fun o _ => o = .inl (some (.int (vx_i 1)))) := by
  intro m
  induction m with
  | zero =>
    intro j k h v5 v6 v7 hk hm hkL hT I hn hu
    have rk : ve_rk h 6 = true := vx_rk_of (by omega) (by omega)
    exact vl_turn (d := 999) (k := k) (I' := vi_J h) (by omega) hT (vj_0 (d := 998) hT I (vx_rL_toInt _) (vx_rI_toInt _)) (vj_1 (d := 990) hT I rk) (vj_2 (d := 991) hT I rk (vx_rI_toInt _)) (vj_3 (d := 999) hT I (vx_rI_toInt _)) (vj_4 (d := 985) hT I rk) (vj_5 (d := 986) hT I rk) (vj_6 (d := 995) hT I rk (vx_rI_toInt _) (vx_rI_toInt _)) (vj_7 (d := 998) hT I (vx_rI_toInt _)) (vj_8 (d := 997) hT I (vx_rI_toInt _) (vx_rI_toInt _)) (vj_9 (d := 995) hT I rk (vx_rI_toInt _) (vx_rI_toInt _) (vx_rI_toInt _)) (vj_10 (d := 995) hT I rk (vx_rI_toInt _) (vx_rI_toInt _)) ⟨I, by omega, by omega⟩ (by omega) (fun _ => rfl) (fun h1 u5 u6 u7 hk2 _ _ => by omega)
  | succ m ih =>
    intro j k h v5 v6 v7 hk hm hkL hT I hn hu
    have rk : ve_rk h 6 = true := vx_rk_of (by omega) (by omega)
    refine vl_turn (d := 999) (k := k) (I' := vi_J h) (by omega) hT (vj_0 (d := 998) hT I (vx_rL_toInt _) (vx_rI_toInt _)) (vj_1 (d := 990) hT I rk) (vj_2 (d := 991) hT I rk (vx_rI_toInt _)) (vj_3 (d := 999) hT I (vx_rI_toInt _)) (vj_4 (d := 985) hT I rk) (vj_5 (d := 986) hT I rk) (vj_6 (d := 995) hT I rk (vx_rI_toInt _) (vx_rI_toInt _)) (vj_7 (d := 998) hT I (vx_rI_toInt _)) (vj_8 (d := 997) hT I (vx_rI_toInt _) (vx_rI_toInt _)) (vj_9 (d := 995) hT I rk (vx_rI_toInt _) (vx_rI_toInt _) (vx_rI_toInt _)) (vj_10 (d := 995) hT I rk (vx_rI_toInt _) (vx_rI_toInt _)) ⟨I, by omega, by omega⟩ (by omega) (fun _ => rfl) (fun h1 u5 u6 u7 hk2 T1 I1 => ?_)
    have ek : ((k : Int) + 4) = ((k + 4 : Nat) : Int) := by omega
    rw [ek]
    have i1 := I1.2.1
    have i2 := I1.2.2
    exact ih (j + 1) (k + 4) h1 u5 u6 u7 (by omega) (by omega) (by omega) T1 I1.1 (by omega) (by omega)
theorem vi_main (hL : L ≤ 2048) : vx_W 1000 216 0 (ve_en [.ref 0] 8) [] (ve_h0 L xs) (fun o _ => o = .inl (some (.int (vx_i 1)))) := by
  refine vx_prefix (fun h hA e M S => ?_)
  exact vi_loop hL 512 0 0 h none none none rfl (by omega) (Nat.zero_le _) S.1 (vi_I0 e M S) (by rw [S.2.1]; decide) (by rw [S.2.2.1]; decide)
end
