/-! Heap, on -/
theorem ve_ckc_ok : ((List.range 13).drop 1).all ve_ckc = true := by
  have e : (List.range 13).drop 1 = [1, 2, 3, 4, 5, 6, 7, 8] ++ (9 :: [10, 11, 12]) := by decide
  rw [e, List.all_append, ve_ckc_a, List.all_cons, ve_ckc_b, ve_ckc_c]
  rfl
/-- the places of the words of the field links -/
def ve_fw : Nat → List ((Nat × Nat × Nat × Bool) × Nat)
  | 1 => [((12, 1, 0, true), 365), ((21, 1, 1, true), 366), ((28, 1, 2, true), 367), ((35, 1, 3, false), 368), ((39, 1, 4, false), 369), ((47, 1, 5, false), 370), ((51, 1, 6, false), 371), ((54, 1, 8, false), 373), ((69, 1, 11, false), 376), ((75, 5, 7, false), 339), ((81, 1, 12, false), 377), ((87, 5, 5, true), 333), ((90, 3, 3, true), 152), ((98, 6, 4, false), 217), ((110, 1, 9, false), 374), ((117, 4, 0, true), 268), ((121, 8, 0, true), 231), ((129, 1, 10, false), 375), ((132, 3, 1, true), 149), ((140, 7, 5, false), 86), ((145, 1, 7, false), 372), ((159, 5, 6, false), 336), ((162, 5, 8, false), 343), ((165, 5, 1, true), 322), ((169, 5, 2, true), 326), ((182, 5, 0, true), 320), ((196, 8, 1, true), 233), ((199, 6, 3, true), 214), ((202, 3, 11, false), 161), ((203, 3, 12, false), 163), ((204, 8, 4, true), 241)]
  | 2 => [((9, 2, 0, true), 33), ((15, 2, 1, true), 34), ((19, 2, 2, true), 36), ((22, 2, 3, true), 38), ((26, 2, 4, false), 40), ((30, 2, 5, false), 41)]
  | 3 => [((12, 3, 1, true), 148), ((18, 3, 2, true), 150), ((22, 3, 3, true), 151), ((25, 3, 4, true), 153), ((28, 3, 5, true), 154), ((32, 3, 0, true), 147), ((36, 3, 8, false), 157), ((56, 3, 11, false), 160), ((100, 3, 6, false), 155), ((104, 3, 7, false), 156), ((108, 3, 9, false), 158), ((111, 3, 12, false), 162), ((120, 5, 4, true), 330), ((123, 5, 7, false), 340), ((129, 3, 10, false), 159), ((132, 7, 0, false), 73), ((135, 7, 1, true), 75), ((147, 5, 5, true), 334), ((160, 7, 2, false), 80), ((163, 7, 4, false), 84), ((166, 7, 5, false), 87), ((172, 7, 10, true), 102), ((178, 2, 1, true), 35), ((183, 7, 7, false), 93), ((202, 2, 3, true), 39), ((221, 5, 1, true), 323), ((224, 7, 3, false), 82), ((234, 2, 2, true), 37)]
  | 4 => [((12, 4, 0, true), 267), ((18, 4, 1, true), 269), ((22, 4, 2, true), 270), ((25, 4, 3, true), 271), ((33, 4, 4, true), 272), ((37, 4, 5, true), 273), ((43, 4, 6, false), 274), ((47, 4, 12, false), 280), ((51, 5, 8, false), 341), ((57, 4, 9, false), 277), ((63, 8, 0, true), 230), ((66, 6, 4, false), 216), ((69, 4, 10, false), 278), ((72, 5, 7, false), 338), ((75, 5, 4, true), 329), ((86, 5, 5, true), 332), ((89, 6, 1, true), 211), ((92, 5, 2, true), 325), ((104, 7, 0, false), 71), ((109, 4, 7, false), 275), ((112, 7, 2, false), 78), ((115, 4, 8, false), 276), ((118, 7, 6, false), 90), ((121, 7, 12, true), 106), ((124, 7, 8, true), 95), ((127, 7, 9, true), 98), ((130, 4, 11, false), 279), ((140, 7, 15, false), 112), ((150, 7, 13, true), 108), ((160, 7, 14, true), 110), ((171, 8, 3, true), 238), ((174, 8, 4, true), 240), ((181, 8, 2, true), 236), ((191, 7, 5, false), 88), ((194, 7, 1, true), 76), ((211, 7, 3, false), 81), ((233, 8, 1, true), 234), ((236, 7, 11, true), 104)]
  | 5 => [((9, 5, 0, true), 319), ((15, 5, 1, true), 321), ((19, 5, 2, true), 324), ((22, 5, 3, true), 327), ((27, 5, 4, true), 328), ((36, 5, 5, true), 331), ((41, 5, 6, false), 335), ((45, 5, 7, false), 337), ((51, 7, 0, false), 72), ((60, 7, 6, false), 91), ((67, 7, 9, true), 99), ((70, 7, 2, false), 79), ((77, 7, 4, false), 83), ((80, 7, 8, true), 96), ((83, 7, 10, true), 101), ((90, 5, 8, false), 342)]
  | 6 => [((9, 6, 2, true), 212), ((15, 6, 3, true), 213), ((18, 6, 0, true), 209), ((22, 6, 1, true), 210), ((26, 6, 4, false), 215)]
  | 7 => [((9, 7, 1, true), 74), ((15, 7, 8, true), 94), ((19, 7, 9, true), 97), ((22, 7, 10, true), 100), ((25, 7, 11, true), 103), ((28, 7, 12, true), 105), ((31, 7, 13, true), 107), ((34, 7, 14, true), 109), ((38, 7, 0, false), 70), ((42, 7, 2, false), 77), ((45, 7, 5, false), 85), ((48, 7, 6, false), 89), ((51, 7, 7, false), 92), ((64, 7, 15, false), 111)]
  | 8 => [((14, 8, 0, true), 229), ((20, 8, 1, true), 232), ((24, 8, 2, true), 235), ((27, 8, 3, true), 237), ((30, 8, 4, true), 239)]
  | 9 => [((7, 9, 1, true), 1009), ((13, 9, 6, true), 1014), ((16, 9, 7, true), 1015), ((19, 9, 8, true), 1016), ((22, 9, 9, true), 1017), ((26, 9, 12, true), 1020), ((29, 9, 13, true), 1021), ((32, 9, 14, true), 1022), ((35, 9, 15, true), 1023), ((38, 9, 16, true), 1024), ((41, 9, 17, true), 1025), ((44, 9, 18, true), 1026), ((47, 9, 19, true), 1027), ((50, 9, 20, true), 1028), ((53, 9, 21, true), 1029), ((56, 9, 22, true), 1030), ((59, 9, 23, true), 1031), ((62, 9, 24, true), 1032), ((65, 9, 25, true), 1033), ((68, 9, 26, true), 1034), ((71, 9, 27, true), 1035), ((74, 9, 28, true), 1036), ((77, 9, 29, true), 1037), ((80, 9, 30, true), 1038), ((83, 9, 31, false), 1039), ((87, 9, 33, true), 1041), ((90, 9, 34, true), 1042), ((93, 9, 35, true), 1043), ((96, 9, 40, true), 1048), ((99, 9, 41, true), 1049), ((102, 9, 43, true), 1051), ((105, 9, 44, true), 1052), ((108, 9, 45, true), 1053), ((112, 9, 51, true), 1059), ((115, 9, 52, true), 1060), ((118, 9, 59, true), 1067), ((121, 9, 60, true), 1068), ((124, 9, 61, true), 1069), ((127, 9, 62, true), 1070), ((130, 9, 63, true), 1071), ((133, 9, 64, true), 1072), ((136, 9, 71, true), 1079), ((139, 9, 72, true), 1080), ((142, 9, 73, true), 1081), ((145, 9, 74, true), 1082), ((148, 9, 76, true), 1084), ((151, 9, 77, true), 1085), ((154, 9, 0, false), 1008), ((157, 9, 2, false), 1010), ((172, 9, 5, false), 1013), ((201, 9, 3, false), 1011), ((204, 9, 4, false), 1012), ((207, 9, 10, false), 1018), ((223, 9, 42, false), 1050), ((226, 9, 46, false), 1054), ((229, 9, 47, false), 1055), ((238, 9, 48, false), 1056), ((245, 9, 49, false), 1057), ((253, 9, 50, false), 1058), ((259, 9, 54, false), 1062), ((262, 9, 55, false), 1063), ((265, 9, 56, false), 1064), ((268, 9, 53, false), 1061), ((278, 9, 57, false), 1065), ((281, 9, 58, false), 1066), ((342, 9, 11, false), 1019), ((357, 9, 32, false), 1040), ((379, 9, 69, false), 1077), ((398, 9, 65, false), 1073), ((404, 9, 70, false), 1078), ((422, 9, 68, false), 1076), ((428, 9, 66, false), 1074), ((443, 9, 67, false), 1075), ((453, 9, 75, false), 1083), ((465, 9, 36, false), 1044), ((474, 9, 78, false), 1086), ((477, 9, 39, false), 1047), ((480, 9, 37, false), 1045), ((483, 9, 38, false), 1046)]
  | _ => []
def ve_ckf (own : Nat) (q : (Nat × Nat × Nat × Bool) × Nat) : Bool := Nat.ble 1 q.1.2.1 && (Nat.ble q.1.2.1 9 && (Nat.blt q.1.2.2.1 (ve_nf q.1.2.1) && (decide (tables_1[q.2]? = some (.fieldLink (ve_nm own) q.1.1 (ve_nm q.1.2.1) (ve_tt q.1.2.1 q.1.2.2.1).2.1 (ve_tt q.1.2.1 q.1.2.2.1).2.2.1)) && decide ((ve_tt q.1.2.1 q.1.2.2.1).2.2.2 = q.1.2.2.2))))
set_option maxRecDepth 100000 in
theorem ve_ckf_1 : (ve_fw 1).all (ve_ckf 1) = true := by decide +kernel
theorem ve_fwm_1 : (ve_fw 1).map (fun q => q.1) = ve_fo 1 := by decide +kernel
set_option maxRecDepth 100000 in
theorem ve_ckf_2 : (ve_fw 2).all (ve_ckf 2) = true := by decide +kernel
theorem ve_fwm_2 : (ve_fw 2).map (fun q => q.1) = ve_fo 2 := by decide +kernel
set_option maxRecDepth 100000 in
theorem ve_ckf_3 : (ve_fw 3).all (ve_ckf 3) = true := by decide +kernel
theorem ve_fwm_3 : (ve_fw 3).map (fun q => q.1) = ve_fo 3 := by decide +kernel
set_option maxRecDepth 100000 in
theorem ve_ckf_4 : (ve_fw 4).all (ve_ckf 4) = true := by decide +kernel
theorem ve_fwm_4 : (ve_fw 4).map (fun q => q.1) = ve_fo 4 := by decide +kernel
set_option maxRecDepth 100000 in
theorem ve_ckf_5 : (ve_fw 5).all (ve_ckf 5) = true := by decide +kernel
theorem ve_fwm_5 : (ve_fw 5).map (fun q => q.1) = ve_fo 5 := by decide +kernel
set_option maxRecDepth 100000 in
theorem ve_ckf_6 : (ve_fw 6).all (ve_ckf 6) = true := by decide +kernel
theorem ve_fwm_6 : (ve_fw 6).map (fun q => q.1) = ve_fo 6 := by decide +kernel
set_option maxRecDepth 100000 in
theorem ve_ckf_7 : (ve_fw 7).all (ve_ckf 7) = true := by decide +kernel
theorem ve_fwm_7 : (ve_fw 7).map (fun q => q.1) = ve_fo 7 := by decide +kernel
set_option maxRecDepth 100000 in
theorem ve_ckf_8 : (ve_fw 8).all (ve_ckf 8) = true := by decide +kernel
theorem ve_fwm_8 : (ve_fw 8).map (fun q => q.1) = ve_fo 8 := by decide +kernel
set_option maxRecDepth 100000 in
theorem ve_ckf_9 : (ve_fw 9).all (ve_ckf 9) = true := by decide +kernel
theorem ve_fwm_9 : (ve_fw 9).map (fun q => q.1) = ve_fo 9 := by decide +kernel
def ve_ckn (own : Nat) (q : Nat × Nat × Nat) : Bool := Nat.ble 1 q.2.1 && (Nat.ble q.2.1 12 && (ve_gd (.classLink (ve_nm own) q.1 (ve_nm q.2.1)) && (ve_gd (.instantiable (ve_nm q.2.1) q.2.2) && (ve_gd (.initialized (ve_nm q.2.1)) && Nat.ble (ve_nf q.2.1) q.2.2))))
set_option maxRecDepth 100000 in
theorem ve_ckn_ok : (List.range 16).all (fun own => (ve_no own).all (ve_ckn own)) = true := by decide +kernel
set_option maxRecDepth 100000 in
theorem ve_ckl_ok : (List.range 16).all (fun own => (ve_lo own).all (fun q => ve_gd (.constantLong (ve_nm own) q.1 q.2))) = true := by decide +kernel
set_option maxRecDepth 100000 in
theorem ve_cka_ok : [FieldType.int, .long, .byte, .boolean].all (fun t => ve_gd (.arrayClass t)) = true := by decide +kernel
theorem ve_as_mem {β : Type} : ∀ (l : List (Nat × β)) (k : Nat) (x : β), ve_as l k = some x → (k, x) ∈ l
  | [], k, x, h => by cases h
  | q :: r, k, x, h => by
    unfold ve_as at h
    cases hb : q.1.beq k with
    | true =>
      rw [hb] at h
      have h1 : some q.2 = some x := h
      have h2 := Nat.eq_of_beq_eq_true hb
      have h3 : q = (k, x) := by rw [← Option.some.inj h1, ← h2]
      rw [h3]
      exact List.mem_cons_self
    | false =>
      rw [hb] at h
      exact List.mem_cons_of_mem _ (ve_as_mem r k x h)
theorem ve_fo_big {own : Nat} (h : 16 ≤ own) : ve_fo own = [] := by
  obtain ⟨k, rfl⟩ : ∃ k, own = k + 16 := ⟨own - 16, by omega⟩
  rfl
theorem ve_no_big {own : Nat} (h : 16 ≤ own) : ve_no own = [] := by
  obtain ⟨k, rfl⟩ : ∃ k, own = k + 16 := ⟨own - 16, by omega⟩
  rfl
theorem ve_lo_big {own : Nat} (h : 16 ≤ own) : ve_lo own = [] := by
  obtain ⟨k, rfl⟩ : ∃ k, own = k + 16 := ⟨own - 16, by omega⟩
  rfl
theorem ve_ckf_in (own : Nat) : (ve_fw own).all (ve_ckf own) = true ∧ (ve_fw own).map (fun q => q.1) = ve_fo own := by
  by_cases h1 : own = 1
  · subst h1; exact ⟨ve_ckf_1, ve_fwm_1⟩
  by_cases h2 : own = 2
  · subst h2; exact ⟨ve_ckf_2, ve_fwm_2⟩
  by_cases h3 : own = 3
  · subst h3; exact ⟨ve_ckf_3, ve_fwm_3⟩
  by_cases h4 : own = 4
  · subst h4; exact ⟨ve_ckf_4, ve_fwm_4⟩
  by_cases h5 : own = 5
  · subst h5; exact ⟨ve_ckf_5, ve_fwm_5⟩
  by_cases h6 : own = 6
  · subst h6; exact ⟨ve_ckf_6, ve_fwm_6⟩
  by_cases h7 : own = 7
  · subst h7; exact ⟨ve_ckf_7, ve_fwm_7⟩
  by_cases h8 : own = 8
  · subst h8; exact ⟨ve_ckf_8, ve_fwm_8⟩
  by_cases h9 : own = 9
  · subst h9; exact ⟨ve_ckf_9, ve_fwm_9⟩
  match own, h1, h2, h3, h4, h5, h6, h7, h8, h9 with
  | 0, _, _, _, _, _, _, _, _, _ => exact ⟨rfl, rfl⟩
  | 1, q, _, _, _, _, _, _, _, _ => exact absurd rfl q
  | 2, _, q, _, _, _, _, _, _, _ => exact absurd rfl q
  | 3, _, _, q, _, _, _, _, _, _ => exact absurd rfl q
  | 4, _, _, _, q, _, _, _, _, _ => exact absurd rfl q
  | 5, _, _, _, _, q, _, _, _, _ => exact absurd rfl q
  | 6, _, _, _, _, _, q, _, _, _ => exact absurd rfl q
  | 7, _, _, _, _, _, _, q, _, _ => exact absurd rfl q
  | 8, _, _, _, _, _, _, _, q, _ => exact absurd rfl q
  | 9, _, _, _, _, _, _, _, _, q => exact absurd rfl q
  | 10, _, _, _, _, _, _, _, _, _ => exact ⟨rfl, rfl⟩
  | 11, _, _, _, _, _, _, _, _, _ => exact ⟨rfl, rfl⟩
  | 12, _, _, _, _, _, _, _, _, _ => exact ⟨rfl, rfl⟩
  | 13, _, _, _, _, _, _, _, _, _ => exact ⟨rfl, rfl⟩
  | 14, _, _, _, _, _, _, _, _, _ => exact ⟨rfl, rfl⟩
  | 15, _, _, _, _, _, _, _, _, _ => exact ⟨rfl, rfl⟩
  | k + 16, _, _, _, _, _, _, _, _, _ => exact ⟨rfl, rfl⟩
theorem ve_ckf_at {own idx kd k : Nat} {fin : Bool} (h : ve_as (ve_fo own) idx = some (kd, k, fin)) :
    1 ≤ kd ∧ kd ≤ 9 ∧ k < ve_nf kd ∧ Cond.fieldLink (ve_nm own) idx (ve_nm kd) (ve_tt kd k).2.1 (ve_tt kd k).2.2.1 ∈ lw_tbl ∧ (ve_tt kd k).2.2.2 = fin := by
  have h1 := ve_as_mem _ _ _ h
  obtain ⟨c1, c2⟩ := ve_ckf_in own
  rw [← c2] at h1
  obtain ⟨q, hq, he⟩ := List.mem_map.mp h1
  have h3 := List.all_eq_true.mp c1 q hq
  unfold ve_ckf at h3
  rw [he] at h3
  simp only [Bool.and_eq_true, decide_eq_true_eq] at h3
  obtain ⟨a1, a2, a3, a4, a5⟩ := h3
  exact ⟨Nat.le_of_ble_eq_true a1, Nat.le_of_ble_eq_true a2, Nat.blt_eq.mp a3, List.mem_append_right _ (List.mem_of_getElem? a4), a5⟩
theorem ve_ckn_at {own idx : Nat} {q : Nat × Nat} (h : ve_as (ve_no own) idx = some q) : ve_ckn own (idx, q) = true := by
  have h1 := ve_as_mem _ _ _ h
  by_cases ho : own < 16
  · exact List.all_eq_true.mp (List.all_eq_true.mp ve_ckn_ok own (List.mem_range.mpr ho)) _ h1
  · rw [ve_no_big (by omega)] at h1
    cases h1
theorem ve_ckl_at {own idx : Nat} {v : Int64} (h : ve_as (ve_lo own) idx = some v) : ve_gd (.constantLong (ve_nm own) idx v) = true := by
  have h1 := ve_as_mem _ _ _ h
  by_cases ho : own < 16
  · have h2 := List.all_eq_true.mp ve_ckl_ok own (List.mem_range.mpr ho)
    exact List.all_eq_true.mp h2 (idx, v) h1
  · rw [ve_lo_big (by omega)] at h1
    cases h1
theorem ve_ckc_at {kd : Nat} (h1 : 1 ≤ kd) (h2 : kd ≤ 12) : ve_ckc kd = true :=
  List.all_eq_true.mp ve_ckc_ok kd (by
    have : (List.range 13).drop 1 = [1, 2, 3, 4, 5, 6, 7, 8, 9, 10, 11, 12] := by decide
    rw [this]
    simp only [List.mem_cons, List.not_mem_nil, or_false]
    omega)
theorem ve_ckc_lay {kd : Nat} (h1 : 1 ≤ kd) (h2 : kd ≤ 12) : ∀ w ∈ u_ws (ve_nm kd) (ve_tt kd) (ve_nf kd), w ∈ lw_tbl ∧ goodWord w = true := by
  intro w hw
  obtain ⟨k, hk, rfl⟩ := List.mem_map.mp hw
  have h := ve_ckc_at h1 h2
  unfold ve_ckc at h
  simp only [Bool.and_eq_true] at h
  have h3 := List.all_eq_true.mp h.1 k hk
  simp only [Bool.and_eq_true, ve_gd, decide_eq_true_eq] at h3
  exact h3.1
theorem ve_ckc_ty {kd : Nat} (h1 : 1 ≤ kd) (h2 : kd ≤ 12) : ∀ k, k < ve_nf kd → parseFieldDescriptor (ve_tt kd k).2.2.1 = some (ve_ty kd k) ∧ ve_tcb ((ve_tcx kd).getD k 9) (ve_ty kd k) = true := by
  intro k hk
  have h := ve_ckc_at h1 h2
  unfold ve_ckc at h
  simp only [Bool.and_eq_true] at h
  have h3 := List.all_eq_true.mp h.1 k (List.mem_range.mpr hk)
  simp only [Bool.and_eq_true, ve_gd, decide_eq_true_eq] at h3
  exact h3.2
theorem ve_ckc_nm {kd : Nat} (h1 : 1 ≤ kd) (h2 : kd ≤ 12) : ∀ a, a < ve_nf kd → ∀ b, b < ve_nf kd → a ≠ b → (ve_tt kd a).2.1 ≠ (ve_tt kd b).2.1 := by
  intro a ha b hb hab
  have h := ve_ckc_at h1 h2
  unfold ve_ckc at h
  simp only [Bool.and_eq_true] at h
  have h3 := List.all_eq_true.mp (List.all_eq_true.mp h.2 a (List.mem_range.mpr ha)) b (List.mem_range.mpr hb)
  simp only [Bool.or_eq_true, decide_eq_true_eq] at h3
  exact h3.resolve_left hab
/-- what is fixed in a run: the script's address, where new cells begin, the script's cell, the state at the start, classes, slots, array classes -/
abbrev ve_G : Type := (Nat × Nat) × Cell × State × (Nat → ClassId) × (Nat → Nat → Nat) × (Nat → ClassId)
abbrev ve_ga (G : ve_G) : Nat → Nat := ve_ad G.1.1 G.1.2
abbrev ve_gB (G : ve_G) : Nat := G.1.2
abbrev ve_gs0 (G : ve_G) : Cell := G.2.1
abbrev ve_g0 (G : ve_G) : State := G.2.2.1
abbrev ve_gH (G : ve_G) : Heap := (ve_g0 G).heap
abbrev ve_gC (G : ve_G) : Nat → ClassId := G.2.2.2.1
abbrev ve_gI (G : ve_G) : Nat → Nat → Nat := G.2.2.2.2.1
abbrev ve_gY (G : ve_G) : Nat → ClassId := G.2.2.2.2.2
def ve_aty : Nat → Option FieldType
  | 20 => some .int
  | 21 => some .long
  | 22 => some .byte
  | 23 => some .boolean
  | 24 => some (.object "RuleHouse$Rule")
  | _ => none
def ve_ok (G : ve_G) (s : State) : Prop :=
  (∀ w ∈ lw_tbl, goodWord w = true → ∀ a : Array Value, w.before a s = true) ∧
  (∀ kd, 1 ≤ kd → kd ≤ 12 → u_Kn s (ve_nm kd) (ve_tt kd) (ve_nf kd) (ve_gC G kd) (ve_gI G kd)) ∧
  (∀ (kd : Nat) (ty : FieldType), ve_aty kd = some ty → ArrOfT s (ve_gY G kd) ty ∧ s.vm.findClass ("[" ++ ty.toString) = some (ve_gY G kd)) ∧
  (∃ kA : Class, s.vm.classes[ve_gY G 24]? = some kA ∧ kA.kind = .array (ve_gC G 7) (.object "RuleHouse$Rule")) ∧
  s.isArrayOf (ve_gs0 G) .int ∧ (ve_gs0 G).vm ≠ .unknown ∧ va_AO "RuleHouse$Rule" s ∧
  (∀ (own : String) (idx : Nat) (y : MethodName), Cond.methodLinkNest own idx y "RuleHouse" ∈ lw_tbl → va_Nw (.methodLinkNest own idx y "RuleHouse") s) ∧
  (ve_g0 G).WarmedH s.vm ∧
  (∀ k1 k2, 10 ≤ k1 → k1 ≤ 12 → 10 ≤ k2 → k2 ≤ 12 → s.vm.assignable (ve_gC G k1) (ve_gC G k2) = decide (k1 = k2))
theorem ve_ok.moved {G : ve_G} {s U : State} (h : ve_ok G s) (hW : s.WarmedH U.vm) : ve_ok G U := by
  obtain ⟨h1, h2, h3, ⟨kA, h4, h5⟩, h6, h7, h8, h9, h10, h11⟩ := h
  have hal := hW.alike
  refine ⟨fun w hw hg a => word_at (args := #[]) hW (good_of_word hg) (h1 w hw hg #[]), fun kd a b => u_Kn_moved hal (h2 kd a b), fun kd ty hk => ⟨arrOfT_moved hal (h3 kd ty hk).1, by rw [hal.findClass]; exact (h3 kd ty hk).2⟩, ?_, State.isArrayOf_alike hal h6, h7, h8.moved hal, fun own idx y hw => (h9 own idx y hw).warmM hW, State.WarmedH.trans h10 hW, fun k1 k2 a b c d => by rw [hal.assignable]; exact h11 k1 k2 a b c d⟩
  obtain ⟨k', hk', he⟩ := hal.2.2 _ _ h4
  exact ⟨k', hk', by rw [he]; exact h5⟩
theorem ve_ok.w {G : ve_G} {s : State} (h : ve_ok G s) {w : Cond} (hw : ve_gd w = true) (a : Array Value) : w.before a s = true := by
  unfold ve_gd at hw
  simp only [Bool.and_eq_true, decide_eq_true_eq] at hw
  exact h.1 w hw.1 hw.2 a
/-- the value that a slot holds -/
def ve_vl (ad : Nat → Nat) (h : ve_H) (a t j : Nat) : Value := match t with
  | 1 => .long (ve_L h a j)
  | 2 => va_rf ((ve_R h a j).map ad)
  | _ => .int (ve_I h a j)
def ve_tk (kd j : Nat) : Nat := bif Nat.ble kd 12 then (ve_tcx kd).getD j 9 else bif kd.beq 21 then 1 else bif kd.beq 24 then 2 else 0
def ve_cell (G : ve_G) (H : Heap) (q kd z : Nat) (V : Nat → Value) : Prop :=
  (1 ≤ kd ∧ kd ≤ 12 ∧ t_OB q (ve_gC G kd) (ve_nf kd) (ve_gI G kd) H V ∧ (10 ≤ kd → ∃ cell : Cell, H[q]? = some cell ∧ cell.monitor = {} ∧ cell.slots.size = 6 ∧ cell.slots[ve_gI G kd 0]? = some .null)) ∨
  (20 ≤ kd ∧ kd ≤ 24 ∧ H[q]? = some (arrV (ve_gY G kd) z V)) ∨
  (kd = 30 ∧ H[q]? = some (ve_gs0 G) ∧ (ve_gs0 G).slots.size = z ∧ ∀ j, j < z → (ve_gs0 G).slots[j]? = some (V j))
def ve_P (G : ve_G) (h : ve_H) (H : Heap) : Prop :=
  G.1.1 < G.1.2 ∧ 1 ≤ ve_n h ∧ H.size = ve_ga G (ve_n h) ∧ ve_k h 0 = 30 ∧
  (∀ a, ve_k h a ≠ 0 → a < ve_n h ∧ ve_cell G H (ve_ga G a) (ve_k h a) (ve_z h a) (fun j => ve_vl (ve_ga G) h a (ve_tk (ve_k h a) j) j)) ∧
  (∀ a, ve_n h ≤ a → ∀ j, ve_I h a j = 0 ∧ ve_L h a j = 0 ∧ ve_R h a j = none) ∧
  (∀ q, q < ve_gB G → H[q]? = (ve_gH G)[q]?) ∧ (∀ a, ve_n h ≤ a → ve_k h a = 0)
theorem ve_cell.kept {G : ve_G} {H H' : Heap} {q kd z : Nat} {V V' : Nat → Value} (h : ve_cell G H q kd z V) (hq : H'[q]? = H[q]?) (hv : ∀ j, V' j = V j) : ve_cell G H' q kd z V' := by
  have e : V' = V := funext hv
  subst e
  rcases h with ⟨a, b, h, h2⟩ | ⟨a, b, h⟩ | ⟨a, h, c⟩
  · exact Or.inl ⟨a, b, h.kept hq, fun z => by rw [hq]; exact h2 z⟩
  · exact Or.inr (Or.inl ⟨a, b, by rw [hq]; exact h⟩)
  · exact Or.inr (Or.inr ⟨a, by rw [hq]; exact h, c⟩)
/-- one slot of one cell changes -/
def ve_up (ad : Nat → Nat) (h h' : ve_H) (a k t : Nat) (v : Value) : Prop :=
  ve_n h' = ve_n h ∧ ve_u h' = ve_u h ∧ (∀ b, ve_k h' b = ve_k h b) ∧ (∀ b, ve_z h' b = ve_z h b) ∧
  (∀ b j t', ¬ (b = a ∧ j = k) → ve_vl ad h' b t' j = ve_vl ad h b t' j) ∧ ve_vl ad h' a t k = v ∧
  (∀ b j, b ≠ a → ve_I h' b j = ve_I h b j ∧ ve_L h' b j = ve_L h b j ∧ ve_R h' b j = ve_R h b j)
theorem ve_up_I {ad : Nat → Nat} (h : ve_H) (a k t : Nat) (v : Int32) (ht : t ≠ 1 ∧ t ≠ 2) : ve_up ad h (ve_sI h a k v) a k t (.int v) := by
  refine ⟨rfl, rfl, fun _ => rfl, fun _ => rfl, fun b j t' hn => ?_, ?_, fun b j hb => ⟨by rw [ve_I_sI, if_neg (fun q => hb q.1)], rfl, rfl⟩⟩
  · unfold ve_vl
    split
    · rfl
    · rfl
    · rw [ve_I_sI, if_neg hn]
  · unfold ve_vl
    split
    · exact absurd rfl ht.1
    · exact absurd rfl ht.2
    · rw [ve_I_sI, if_pos ⟨rfl, rfl⟩]
theorem ve_up_L {ad : Nat → Nat} (h : ve_H) (a k : Nat) (v : Int64) : ve_up ad h (ve_sL h a k v) a k 1 (.long v) := by
  refine ⟨rfl, rfl, fun _ => rfl, fun _ => rfl, fun b j t' hn => ?_, ?_, fun b j hb => ⟨rfl, by rw [ve_L_sL, if_neg (fun q => hb q.1)], rfl⟩⟩
  · unfold ve_vl
    split
    · rw [ve_L_sL, if_neg hn]
    · rfl
    · rfl
  · show Value.long (ve_L (ve_sL h a k v) a k) = _
    rw [ve_L_sL, if_pos ⟨rfl, rfl⟩]
theorem ve_up_R {ad : Nat → Nat} (h : ve_H) (a k b0 : Nat) : ve_up ad h (ve_sR h a k (some b0)) a k 2 (.ref (ad b0)) := by
  refine ⟨rfl, rfl, fun _ => rfl, fun _ => rfl, fun b j t' hn => ?_, ?_, fun b j hb => ⟨rfl, rfl, by rw [ve_R_sR, if_neg (fun q => hb q.1)]⟩⟩
  · unfold ve_vl
    split
    · rfl
    · rw [ve_R_sR, if_neg hn]
    · rfl
  · show va_rf ((ve_R (ve_sR h a k (some b0)) a k).map ad) = _
    rw [ve_R_sR, if_pos ⟨rfl, rfl⟩]
    rfl
theorem ve_P.up {G : ve_G} {h h' : ve_H} {H H' : Heap} {a k : Nat} {v : Value} (hP : ve_P G h H) (ha : ve_k h a ≠ 0) (hu : ve_up (ve_ga G) h h' a k (ve_tk (ve_k h a) k) v)
    (hc : ve_cell G H' (ve_ga G a) (ve_k h a) (ve_z h a) (updV (fun j => ve_vl (ve_ga G) h a (ve_tk (ve_k h a) j) j) k v)) (hz : H'.size = H.size) (ho : ∀ q, q ≠ ve_ga G a → H'[q]? = H[q]?) (h0 : a ≠ 0) : ve_P G h' H' := by
  obtain ⟨p1, p2, p3, p4, p5, p6, p7, p8⟩ := hP
  obtain ⟨u1, u2, u3, u4, u5, u6, u7⟩ := hu
  have hlt := (p5 a ha).1
  refine ⟨p1, by rw [u1]; exact p2, by rw [u1, hz]; exact p3, by rw [u3]; exact p4, fun b hb => ?_, fun b hb j => ?_, fun q hq => ?_, fun b hb => ?_⟩
  · rw [u3] at hb ⊢
    rw [u1, u4]
    refine ⟨(p5 b hb).1, ?_⟩
    by_cases hba : b = a
    · subst hba
      have e : (fun j => ve_vl (ve_ga G) h' b (ve_tk (ve_k h b) j) j) = updV (fun j => ve_vl (ve_ga G) h b (ve_tk (ve_k h b) j) j) k v := by
        funext j
        unfold updV
        by_cases hj : j = k
        · subst hj
          rw [if_pos rfl]
          exact u6
        · rw [if_neg hj]
          exact u5 b j _ (fun q => hj q.2)
      rw [e]
      exact hc
    · exact (p5 b hb).2.kept (ho _ (fun q => hba (ve_ad_inj p1 q))) (fun j => u5 b j _ (fun q => hba q.1))
  · rw [u1] at hb
    have hba : b ≠ a := by omega
    obtain ⟨e1, e2, e3⟩ := u7 b j hba
    rw [e1, e2, e3]
    exact p6 b hb j
  · rw [ho q ?_]
    · exact p7 q hq
    · intro e
      cases a with
      | zero => exact h0 rfl
      | succ n =>
        have e1 : q = G.1.2 + n := e
        have hq1 : q < G.1.2 := hq
        omega
  · rw [u1] at hb
    rw [u3]
    exact p8 b hb
theorem ve_ga_B {G : ve_G} {a : Nat} (h : a ≠ 0) : ve_gB G ≤ ve_ga G a := by
  cases a with
  | zero => exact absurd rfl h
  | succ n => exact Nat.le_add_right _ _
theorem ve_ga_S {G : ve_G} {n : Nat} (h : 1 ≤ n) : ve_ga G (n + 1) = ve_ga G n + 1 := by
  cases n with
  | zero => omega
  | succ n => rfl
/-- a new cell -/
theorem ve_P.new {G : ve_G} {h : ve_H} {H H' : Heap} {kd z : Nat} (hP : ve_P G h H) (hkd : kd ≠ 0)
    (hc : ve_cell G H' (ve_ga G (ve_n h)) kd z (fun j => ve_vl (ve_ga G) h (ve_n h) (ve_tk kd j) j)) (hz : H'.size = H.size + 1) (ho : ∀ q, q < H.size → H'[q]? = H[q]?) : ve_P G (ve_new h kd z) H' := by
  obtain ⟨p1, p2, p3, p4, p5, p6, p7, p8⟩ := hP
  have hB : ve_gB G ≤ H.size := by rw [p3]; exact ve_ga_B (by omega)
  refine ⟨p1, by rw [ve_n_new]; omega, by rw [ve_n_new, hz, p3, ve_ga_S p2], by rw [ve_k_new, if_neg (by omega)]; exact p4, fun b hb => ?_, fun b hb j => ?_, fun q hq => ?_, fun b hb => ?_⟩
  · rw [ve_k_new, ve_z_new, ve_n_new]
    rw [ve_k_new] at hb
    by_cases hbn : b = ve_n h
    · subst hbn
      rw [if_pos rfl, if_pos rfl]
      exact ⟨Nat.lt_succ_self _, hc⟩
    · rw [if_neg hbn] at hb ⊢
      rw [if_neg hbn]
      obtain ⟨q1, q2⟩ := p5 b hb
      refine ⟨by omega, q2.kept (ho _ ?_) (fun j => rfl)⟩
      rw [p3]
      cases b with
      | zero =>
        cases hn : ve_n h with
        | zero => omega
        | succ n => show G.1.1 < G.1.2 + n; omega
      | succ b' =>
        cases hn : ve_n h with
        | zero => omega
        | succ n => show G.1.2 + b' < G.1.2 + n; omega
  · rw [ve_n_new] at hb
    exact p6 b (by omega) j
  · rw [ho q (by omega)]
    exact p7 q hq
  · rw [ve_n_new] at hb
    rw [ve_k_new, if_neg (by omega)]
    exact p8 b (by omega)
