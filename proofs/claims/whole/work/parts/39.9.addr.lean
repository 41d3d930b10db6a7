/-! Where the cells of rules, programs and tables lie -/
theorem vx_ro_t : (List.range 625).all (fun a => Nat.blt a 1 || (!(vx_ka a).beq 7 || ((vx_r a 1).beq (a + 1) && ((vx_r a 8).beq (a + 2) && ((vx_r a 9).beq (a + 3) && ((vx_r a 10).beq (a + 4) && ((vx_r a 11).beq (a + 5) && ((vx_r a 12).beq (a + 6) && ((vx_r a 13).beq (a + 7) && ((vx_r a 14).beq (a + 8) && (a.beq 8 || ((Nat.ble 49 a && Nat.ble a 319) || (Nat.ble 338 a && Nat.ble a 608))))))))))))) = true := by decide +kernel
theorem vx_po_t : (List.range 625).all (fun a => Nat.blt a 1 || (!(vx_ka a).beq 5 || ((vx_r a 0).beq (a + 1) && ((vx_r a 1).beq (a + 2) && ((vx_r a 2).beq (a + 3) && ((vx_r a 3).beq (a + 4) && ((vx_r a 4).beq (a + 5) && ((vx_r a 5).beq (a + 6) && (a.beq 39 || a.beq 328))))))))) = true := by decide +kernel
theorem vx_to_t : (List.range 625).all (fun a => Nat.blt a 1 || (!(vx_ka a).beq 6 || ((vx_r a 1).beq (a + 3) && ((vx_r a 2).beq (a + 1) && ((vx_r a 3).beq (a + 2) && (a.beq 23 || (a.beq 34 || (a.beq 45 || (a.beq 334 || (a.beq 617 || a.beq 621)))))))))) = true := by decide +kernel
theorem vx_ru_t : [39, 328].all (fun p => (List.range 31).all (fun j => (vx_r (p + 5) j).beq (p + 10 + 9 * j))) = true := by decide +kernel
theorem vx_tt {kd : Nat} {F : Nat → Bool} {a : Nat} (t : (List.range 625).all (fun a => Nat.blt a 1 || (!(vx_ka a).beq kd || F a)) = true) (o : vx_o 1 625 kd a) : F a = true := by
  have h : (Nat.blt a 1 || (!(vx_ka a).beq kd || F a)) = true := List.all_eq_true.mp t a (List.mem_range.mpr o.1.2)
  have h1 : Nat.blt a 1 = false := by
    cases hb : Nat.blt a 1 with
    | false => rfl
    | true => have := Nat.le_of_ble_eq_true hb; have := o.1.1; omega
  rw [h1, o.2, Nat.beq_refl kd] at h
  exact h
theorem vx_ro {a : Nat} (o : vx_o 1 625 7 a) : vx_r a 1 = a + 1 ∧ vx_r a 8 = a + 2 ∧ vx_r a 9 = a + 3 ∧ vx_r a 10 = a + 4 ∧ vx_r a 11 = a + 5 ∧ vx_r a 12 = a + 6 ∧ vx_r a 13 = a + 7 ∧ vx_r a 14 = a + 8 ∧ (a = 8 ∨ (49 ≤ a ∧ a ≤ 319) ∨ (338 ≤ a ∧ a ≤ 608)) := by
  have h := vx_tt vx_ro_t o
  simp only [Bool.and_eq_true, Bool.or_eq_true] at h
  obtain ⟨h1, h2, h3, h4, h5, h6, h7, h8, h9⟩ := h
  exact ⟨Nat.eq_of_beq_eq_true h1, Nat.eq_of_beq_eq_true h2, Nat.eq_of_beq_eq_true h3, Nat.eq_of_beq_eq_true h4, Nat.eq_of_beq_eq_true h5, Nat.eq_of_beq_eq_true h6, Nat.eq_of_beq_eq_true h7, Nat.eq_of_beq_eq_true h8, h9.imp Nat.eq_of_beq_eq_true (fun q => q.imp (fun u => ⟨Nat.le_of_ble_eq_true u.1, Nat.le_of_ble_eq_true u.2⟩) (fun u => ⟨Nat.le_of_ble_eq_true u.1, Nat.le_of_ble_eq_true u.2⟩))⟩
theorem vx_po {a : Nat} (o : vx_o 1 625 5 a) : vx_r a 0 = a + 1 ∧ vx_r a 1 = a + 2 ∧ vx_r a 2 = a + 3 ∧ vx_r a 3 = a + 4 ∧ vx_r a 4 = a + 5 ∧ vx_r a 5 = a + 6 ∧ (a = 39 ∨ a = 328) := by
  have h := vx_tt vx_po_t o
  simp only [Bool.and_eq_true, Bool.or_eq_true] at h
  obtain ⟨h1, h2, h3, h4, h5, h6, h9⟩ := h
  exact ⟨Nat.eq_of_beq_eq_true h1, Nat.eq_of_beq_eq_true h2, Nat.eq_of_beq_eq_true h3, Nat.eq_of_beq_eq_true h4, Nat.eq_of_beq_eq_true h5, Nat.eq_of_beq_eq_true h6, h9.imp Nat.eq_of_beq_eq_true Nat.eq_of_beq_eq_true⟩
theorem vx_to {a : Nat} (o : vx_o 1 625 6 a) : vx_r a 1 = a + 3 ∧ vx_r a 2 = a + 1 ∧ vx_r a 3 = a + 2 ∧ (a = 23 ∨ a = 34 ∨ a = 45 ∨ a = 334 ∨ a = 617 ∨ a = 621) := by
  have h := vx_tt vx_to_t o
  simp only [Bool.and_eq_true, Bool.or_eq_true] at h
  obtain ⟨h1, h2, h3, h9⟩ := h
  refine ⟨Nat.eq_of_beq_eq_true h1, Nat.eq_of_beq_eq_true h2, Nat.eq_of_beq_eq_true h3, ?_⟩
  rcases h9 with q | q | q | q | q | q
  · exact Or.inl (Nat.eq_of_beq_eq_true q)
  · exact Or.inr (Or.inl (Nat.eq_of_beq_eq_true q))
  · exact Or.inr (Or.inr (Or.inl (Nat.eq_of_beq_eq_true q)))
  · exact Or.inr (Or.inr (Or.inr (Or.inl (Nat.eq_of_beq_eq_true q))))
  · exact Or.inr (Or.inr (Or.inr (Or.inr (Or.inl (Nat.eq_of_beq_eq_true q)))))
  · exact Or.inr (Or.inr (Or.inr (Or.inr (Or.inr (Nat.eq_of_beq_eq_true q)))))
theorem vx_ru {a j : Nat} (o : vx_o 1 625 5 a) (hj : j < 31) : vx_r (vx_r a 4) j = a + 10 + 9 * j := by
  have h := vx_po o
  rw [h.2.2.2.2.1]
  have t := vx_ru_t
  simp only [List.all_cons, List.all_nil, Bool.and_true, Bool.and_eq_true] at t
  rcases h.2.2.2.2.2.2 with q | q
  · subst q
    exact Nat.eq_of_beq_eq_true (List.all_eq_true.mp t.1 j (List.mem_range.mpr hj))
  · subst q
    exact Nat.eq_of_beq_eq_true (List.all_eq_true.mp t.2 j (List.mem_range.mpr hj))
