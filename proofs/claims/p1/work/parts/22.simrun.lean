/-! The run is the same over heaps that agree -/
section VSR
variable {P : Nat → Prop} {B : ve_H}
theorem ve_rc_sm {h1 h2 : ve_H} (S : ve_sm P B h1 h2) {kd : Nat} (hkd : kd ≠ 0) {as : List Value} (h : ve_rc h1 kd as = true) : ve_rc h2 kd as = true := by
  obtain ⟨a, r, rfl, hk⟩ := ve_rc_ok h
  have hv := S.vis (a := a) (by rw [hk]; exact hkd)
  show (ve_k h2 a).beq kd = true
  rw [← (S.2.2.1 a hv).1]
  exact ve_beq_t hk
set_option maxHeartbeats 4000000 in
theorem ve_sm_run : ∀ (n d mi pc : Nat) (lv : ve_V) (st : List Value) (h1 h2 : ve_H) (o : ve_O) (h1' : ve_H), ve_run n d mi pc lv st h1 = some (o, h1') → ve_sm P B h1 h2 → ∃ h2', ve_run n d mi pc lv st h2 = some (o, h2') ∧ ve_sm P B h1' h2'
  | 0, _, _, _, _, _, _, _, _, _, hx, _ => by cases hx
  | n + 1, d, mi, pc, lv, st, h1, h2, o, h1', hx, S => by
    rw [ve_run_S] at hx ⊢
    have ih := fun d mi pc lv st h1 h2 o h1' hx S => ve_sm_run n d mi pc lv st h1 h2 o h1' hx S
    unfold ve_F at hx ⊢
    split at hx
    · cases hx
    · rename_i i len hf
      try rw [hf]
      try dsimp only
      split at hx
      · rename_i hct
        try rw [hct]
        try dsimp only
        split at hx
        · rename_i v hv
          obtain ⟨rfl, rfl⟩ := ve_prO hx
          try rw [hv]
          exact ⟨h2, rfl, S⟩
        · cases hx
      · rename_i hct
        try rw [hct]
        try dsimp only
        split at hx
        · rename_i a r
          have hx9 := ve_cond_t hx
          clear hx
          obtain ⟨hk, hx⟩ := hx9
          obtain ⟨rfl, rfl⟩ := ve_prO hx
          have hk' := hk
          simp only [Bool.and_eq_true] at hk'
          have hv := S.vis (a := a) (by have := Nat.le_of_ble_eq_true hk'.1; omega)
          refine ⟨h2, ?_, S⟩
          try dsimp only
          rw [← (S.2.2.1 a hv).1, hk]
          rfl
        · cases hx
      · rename_i hct
        try rw [hct]
        try dsimp only
        split at hx
        · cases hx
        · rename_i how cm np hco
          try rw [hco]
          try dsimp only
          have hx9 := ve_cond_t hx
          clear hx
          obtain ⟨hhw, hx⟩ := hx9
          rw [hhw]
          split at hx
          · split at hx
            · rename_i a9 r9
              have hx9 := ve_cond_t hx
              clear hx
              obtain ⟨hw, hx⟩ := hx9
              obtain ⟨h2', e1, e2⟩ := ih _ _ _ _ _ _ _ _ _ hx S
              refine ⟨h2', ?_, e2⟩
              show (bif Nat.ble (ve_wd r9) 20 then ve_run n d mi (pc + 3) lv r9 h2 else none) = _
              rw [hw]
              exact e1
            · cases hx
          · split at hx
            · rename_i a9 r9
              have hx9 := ve_cond_t hx
              clear hx
              obtain ⟨hw, hx⟩ := hx9
              have hw' := hw
              simp only [Bool.and_eq_true] at hw'
              have hv := S.vis (a := a9) (by have := (ve_co1_at hco).1; rw [Nat.eq_of_beq_eq_true hw'.1]; omega)
              obtain ⟨h2', e1, e2⟩ := ih _ _ _ _ _ _ _ _ _ hx S
              refine ⟨h2', ?_, e2⟩
              show (bif (ve_k h2 a9).beq cm && Nat.ble (ve_wd r9) 20 then ve_run n d mi (pc + 3) lv r9 h2 else none) = _
              rw [← (S.2.2.1 a9 hv).1, hw]
              exact e1
            · cases hx
          · split at hx
            · rename_i k dp dst sp src r9
              have hx9 := ve_cond_t hx
              clear hx
              obtain ⟨hw, hx⟩ := hx9
              have hx9 := ve_ite_f hx
              clear hx
              obtain ⟨hin, hx⟩ := hx9
              have hw' := hw
              simp only [Bool.and_eq_true] at hw'
              have hs := S.vis (a := src) (ve_be_ne hw'.1 (by decide))
              have hd := S.vis (a := dst) (ve_be_ne hw'.2.1 (by decide))
              obtain ⟨h2', e1, e2⟩ := ih _ _ _ _ _ _ _ _ _ hx (S.cp hs hd sp.toNatClampNeg dp.toNatClampNeg k.toNatClampNeg)
              refine ⟨h2', ?_, e2⟩
              show (bif (ve_k h2 src).beq 21 && ((ve_k h2 dst).beq 21 && Nat.ble (ve_wd r9) 20) then (if k < 0 ∨ sp < 0 ∨ dp < 0 ∨ ve_z h2 src < sp.toNatClampNeg + k.toNatClampNeg ∨ ve_z h2 dst < dp.toNatClampNeg + k.toNatClampNeg then none else ve_run n d mi (pc + 3) lv r9 (ve_cp h2 src sp.toNatClampNeg dst dp.toNatClampNeg h2 k.toNatClampNeg)) else none) = _
              rw [← (S.2.2.1 src hs).1, ← (S.2.2.1 dst hd).1, ← (S.2.2.1 src hs).2.1, ← (S.2.2.1 dst hd).2.1, hw]
              exact (if_neg hin).trans e1
            · cases hx
          · rename_i q0 q1 q2
            have hx9 := ve_cond_t hx
            clear hx
            obtain ⟨hw9, hx⟩ := hx9
            cases d with
            | zero => cases hx
            | succ d' =>
              try dsimp only at hx
              have main : ∃ h2', (match ve_run n d' cm 0 (ve_en (st.take np).reverse (ve_ml cm)) [] h2 with
                | none => none
                | some (.inl v, h') => ve_run n (d' + 1) mi (pc + 3) lv (v.toList ++ st.drop np) h'
                | some (.inr a, h') => match ve_hs mi with
                  | [] => some (.inr a, h')
                  | hs => match ve_hf hs pc (ve_k h' a) with
                    | some hp => ve_run n (d' + 1) mi hp lv [.ref a] h'
                    | none => none) = some (o, h2') ∧ ve_sm P B h1' h2' := by
                split at hx
                · cases hx
                · rename_i v g1 hrun
                  obtain ⟨g2, e1, e2⟩ := ih _ _ _ _ _ _ _ _ _ hrun S
                  obtain ⟨h2', e3, e4⟩ := ih _ _ _ _ _ _ _ _ _ hx e2
                  refine ⟨h2', ?_, e4⟩
                  rw [e1]
                  exact e3
                · rename_i a g1 hrun
                  obtain ⟨g2, e1, e2⟩ := ih _ _ _ _ _ _ _ _ _ hrun S
                  rw [e1]
                  try dsimp only
                  split at hx
                  · rename_i hh
                    obtain ⟨rfl, rfl⟩ := ve_prO hx
                    try rw [hh]
                    exact ⟨g2, rfl, e2⟩
                  · rename_i hs hh
                    split at hx
                    · rename_i hp hfn
                      cases hh2 : ve_hs mi with
                      | nil => exact (hh hh2).elim
                      | cons z1 z2 =>
                        have hk10 := ve_hf_k _ (fun q hq => (ve_hs_ok hq).2) hfn
                        have hv := e2.vis (a := a) (by omega)
                        rw [hh2] at hfn
                        obtain ⟨h2', e3, e4⟩ := ih _ _ _ _ _ _ _ _ _ hx e2
                        refine ⟨h2', ?_, e4⟩
                        try dsimp only
                        rw [← (e2.2.2.1 a hv).1, hfn]
                        exact e3
                    · cases hx
              have h3 : 3 ≤ how := by
                rcases Nat.lt_or_ge how 3 with q | q
                · exfalso
                  have : how = 0 ∨ how = 1 ∨ how = 2 := by omega
                  rcases this with q | q | q
                  · exact q0 q
                  · exact q1 q
                  · exact q2 q
                · exact q
              have hw2 : ((st.take np).length.beq np && (Nat.ble (ve_wd (st.drop np)) 20 && (Nat.ble (ve_wd (st.take np).reverse) (ve_ml cm) && ((how.beq 4 || how.beq 14) || ve_rc h2 (ve_ow cm) (st.take np).reverse)))) = true := by
                simp only [Bool.and_eq_true, Bool.or_eq_true] at hw9 ⊢
                obtain ⟨w1, w2, w3, w4⟩ := hw9
                refine ⟨w1, w2, w3, w4.imp id fun z => ve_rc_sm S ?_ z⟩
                obtain ⟨n1, n2, n3, n4⟩ := (ve_ckg_at hco).2 h3
                have := (ve_eok_of n2).2.2.2.2.2.1
                omega
              obtain ⟨h2', e3, e4⟩ := main
              refine ⟨h2', ?_, e4⟩
              clear hx hw9 hco hhw ih
              match how, q0, q1, q2, hw2 with
              | 0, q0, _, _, _ => exact (q0 rfl).elim
              | 1, _, q1, _, _ => exact (q1 rfl).elim
              | 2, _, _, q2, _ => exact (q2 rfl).elim
              | k + 3, _, _, _, hw2 =>
                show (bif (st.take np).length.beq np && (Nat.ble (ve_wd (st.drop np)) 20 && (Nat.ble (ve_wd (st.take np).reverse) (ve_ml cm) && (((k + 3).beq 4 || (k + 3).beq 14) || ve_rc h2 (ve_ow cm) (st.take np).reverse))) then (match ve_run n d' cm 0 (ve_en (st.take np).reverse (ve_ml cm)) [] h2 with
                  | none => none
                  | some (.inl v, h') => ve_run n (d' + 1) mi (pc + 3) lv (v.toList ++ st.drop np) h'
                  | some (.inr a, h') => match ve_hs mi with
                    | [] => some (.inr a, h')
                    | hs => match ve_hf hs pc (ve_k h' a) with
                      | some hp => ve_run n (d' + 1) mi hp lv [.ref a] h'
                      | none => none) else none) = _
                rw [hw2]
                exact e3
      · rename_i hct
        try rw [hct]
        try dsimp only
        split at hx
        · rename_i pc' st' hj
          try rw [hj]
          exact ih _ _ _ _ _ _ _ _ _ hx S
        · cases hx
      · rename_i hct
        try rw [hct]
        try dsimp only
        split at hx
        · rename_i pc' st' hj
          try rw [hj]
          exact ih _ _ _ _ _ _ _ _ _ hx S
        · cases hx
      · rename_i q0 q1 q2 q3 q4
        split at hx
        · rename_i st' g1 hj
          obtain ⟨g2, e1, e2⟩ := ve_sm_he S hj
          try rw [e1]
          exact ih _ _ _ _ _ _ _ _ _ hx e2
        · cases hx
end VSR
