/-! Runs of the small machine: one step with what follows it as a function; more fuel does no harm; parts of the heap that aren't seen don't matter -/
abbrev ve_Rc : Type := Nat → Nat → Nat → ve_V → List Value → ve_H → Option (ve_O × ve_H)
noncomputable def ve_F (rc : ve_Rc) (d mi pc : Nat) (lv : ve_V) (st : List Value) (h : ve_H) : Option (ve_O × ve_H) := match ve_f mi pc with
    | none => none
    | some (i, len) => match ve_ct i with
      | 0 => match ve_rv (ve_rt mi) i st with
        | some v => some (.inl v, h)
        | none => none
      | 1 => match st with
        | .ref a :: _ => bif Nat.ble 10 (ve_k h a) && (Nat.ble (ve_k h a) 12 && (ve_hs mi).isEmpty) then some (.inr a, h) else none
        | _ => none
      | 2 => match ve_as (ve_co (ve_ow mi)) (ve_ci i).1 with
        | none => none
        | some (how, cm, np) => bif ve_hw (ve_ci i).2 how then
            (match how with
             | 0 => match st with
               | .ref _ :: r => bif Nat.ble (ve_wd r) 20 then rc d mi (pc + 3) lv r h else none
               | _ => none
             | 1 => match st with
               | .ref a :: r => bif (ve_k h a).beq cm && Nat.ble (ve_wd r) 20 then rc d mi (pc + 3) lv r h else none
               | _ => none
             | 2 => match st with
               | .int k :: .int dp :: .ref dst :: .int sp :: .ref src :: r =>
                 bif (ve_k h src).beq 21 && ((ve_k h dst).beq 21 && Nat.ble (ve_wd r) 20) then
                   (if k < 0 ∨ sp < 0 ∨ dp < 0 ∨ ve_z h src < sp.toNatClampNeg + k.toNatClampNeg ∨ ve_z h dst < dp.toNatClampNeg + k.toNatClampNeg then none
                    else rc d mi (pc + 3) lv r (ve_cp h src sp.toNatClampNeg dst dp.toNatClampNeg h k.toNatClampNeg)) else none
               | _ => none
             | _ => bif (st.take np).length.beq np && (Nat.ble (ve_wd (st.drop np)) 20 && (Nat.ble (ve_wd (st.take np).reverse) (ve_ml cm) && ((how.beq 4 || how.beq 14) || ve_rc h (ve_ow cm) (st.take np).reverse))) then
                 (match d with
                  | 0 => none
                  | d' + 1 => match rc d' cm 0 (ve_en (st.take np).reverse (ve_ml cm)) [] h with
                    | none => none
                    | some (.inl v, h') => rc (d' + 1) mi (pc + 3) lv (v.toList ++ st.drop np) h'
                    | some (.inr a, h') => match ve_hs mi with
                      | [] => some (.inr a, h')
                      | hs => match ve_hf hs pc (ve_k h' a) with
                        | some hp => rc (d' + 1) mi hp lv [.ref a] h'
                        | none => none) else none) else none
      | 3 => match ve_jp i pc st with
        | some (pc', st') => rc d mi pc' lv st' h
        | none => none
      | 4 => match ve_pu (ve_ml mi) i lv st with
        | some (lv', st') => rc d mi (pc + len) lv' st' h
        | none => none
      | _ => match ve_he (ve_ow mi) (ve_ini mi) i st h with
        | some (st', h') => rc d mi (pc + len) lv st' h'
        | none => none
theorem ve_run_S (n d mi pc : Nat) (lv : ve_V) (st : List Value) (h : ve_H) : ve_run (n + 1) d mi pc lv st h = ve_F (ve_run n) d mi pc lv st h := rfl
theorem ve_cn {α : Type} {b : Bool} {x y : Option α} {z : α} (h : (bif b then x else none) = some z) (hxy : b = true → x = some z → y = some z) : (bif b then y else none) = some z := by
  cases b with
  | true => exact hxy rfl h
  | false => cases h
theorem ve_in {α : Type} {q : Prop} [Decidable q] {x y : Option α} {z : α} (h : (if q then none else x) = some z) (hxy : x = some z → y = some z) : (if q then none else y) = some z := by
  by_cases hq : q
  · rw [if_pos hq] at h; cases h
  · rw [if_neg hq] at h ⊢; exact hxy h
theorem ve_F_mono {r r' : ve_Rc} (hr : ∀ d mi pc lv st h x, r d mi pc lv st h = some x → r' d mi pc lv st h = some x) {d mi pc : Nat} {lv : ve_V} {st : List Value} {h : ve_H} {x : ve_O × ve_H} (hx : ve_F r d mi pc lv st h = some x) : ve_F r' d mi pc lv st h = some x := by
  unfold ve_F at hx ⊢
  split at hx
  · cases hx
  · rename_i i len hf
    try rw [hf]
    try dsimp only
    split at hx
    · rename_i hct
      try rw [hct]
      exact hx
    · rename_i hct
      try rw [hct]
      exact hx
    · rename_i hct
      try rw [hct]
      try dsimp only
      split at hx
      · cases hx
      · rename_i how cm np hco
        try rw [hco]
        try dsimp only
        have hx9 := ve_cond_t hx
        clear hx
        obtain ⟨hhw, hx⟩ := hx9
        rw [hhw]
        split at hx
        · split at hx
          · rename_i a9 r9
            show (bif Nat.ble (ve_wd r9) 20 then r' d mi (pc + 3) lv r9 h else none) = some x
            exact ve_cn hx fun _ hx => hr _ _ _ _ _ _ _ hx
          · cases hx
        · split at hx
          · rename_i a9 r9
            show (bif (ve_k h a9).beq cm && Nat.ble (ve_wd r9) 20 then r' d mi (pc + 3) lv r9 h else none) = some x
            exact ve_cn hx fun _ hx => hr _ _ _ _ _ _ _ hx
          · cases hx
        · split at hx
          · rename_i k dp dst sp src r9
            show (bif (ve_k h src).beq 21 && ((ve_k h dst).beq 21 && Nat.ble (ve_wd r9) 20) then (if k < 0 ∨ sp < 0 ∨ dp < 0 ∨ ve_z h src < sp.toNatClampNeg + k.toNatClampNeg ∨ ve_z h dst < dp.toNatClampNeg + k.toNatClampNeg then none else r' d mi (pc + 3) lv r9 (ve_cp h src sp.toNatClampNeg dst dp.toNatClampNeg h k.toNatClampNeg)) else none) = some x
            exact ve_cn hx fun _ hx => ve_in hx fun hx => hr _ _ _ _ _ _ _ hx
          · cases hx
        · rename_i q0 q1 q2
          have hx9 := ve_cond_t hx
          clear hx
          obtain ⟨hw9, hx⟩ := hx9
          cases d with
          | zero => cases hx
          | succ d' =>
            dsimp only at hx
            have main : (match r' d' cm 0 (ve_en (st.take np).reverse (ve_ml cm)) [] h with
              | none => none
              | some (.inl v, h') => r' (d' + 1) mi (pc + 3) lv (v.toList ++ st.drop np) h'
              | some (.inr a, h') => match ve_hs mi with
                | [] => some (.inr a, h')
                | hs => match ve_hf hs pc (ve_k h' a) with
                  | some hp => r' (d' + 1) mi hp lv [.ref a] h'
                  | none => none) = some x := by
              split at hx
              · cases hx
              · rename_i v h1 hrun
                rw [hr _ _ _ _ _ _ _ hrun]
                exact hr _ _ _ _ _ _ _ hx
              · rename_i a h1 hrun
                rw [hr _ _ _ _ _ _ _ hrun]
                try dsimp only
                split at hx
                · rename_i hh
                  try rw [hh]
                  exact hx
                · rename_i hs hh
                  split at hx
                  · rename_i hp hfn
                    cases hh2 : ve_hs mi with
                    | nil => exact (hh hh2).elim
                    | cons z1 z2 =>
                      rw [hh2] at hfn
                      try dsimp only
                      try rw [hfn]
                      exact hr _ _ _ _ _ _ _ hx
                  · cases hx
            match how, q0, q1, q2, hw9 with
            | 0, q0, _, _, _ => exact (q0 rfl).elim
            | 1, _, q1, _, _ => exact (q1 rfl).elim
            | 2, _, _, q2, _ => exact (q2 rfl).elim
            | k + 3, _, _, _, hw9 =>
              show (bif (st.take np).length.beq np && (Nat.ble (ve_wd (st.drop np)) 20 && (Nat.ble (ve_wd (st.take np).reverse) (ve_ml cm) && (((k + 3).beq 4 || (k + 3).beq 14) || ve_rc h (ve_ow cm) (st.take np).reverse))) then (match r' d' cm 0 (ve_en (st.take np).reverse (ve_ml cm)) [] h with
                | none => none
                | some (.inl v, h') => r' (d' + 1) mi (pc + 3) lv (v.toList ++ st.drop np) h'
                | some (.inr a, h') => match ve_hs mi with
                  | [] => some (.inr a, h')
                  | hs => match ve_hf hs pc (ve_k h' a) with
                    | some hp => r' (d' + 1) mi hp lv [.ref a] h'
                    | none => none) else none) = some x
              rw [hw9]
              exact main
    · rename_i hct
      try rw [hct]
      try dsimp only
      split at hx
      · rename_i pc' st' hj
        try rw [hj]
        exact hr _ _ _ _ _ _ _ hx
      · cases hx
    · rename_i hct
      try rw [hct]
      try dsimp only
      split at hx
      · rename_i pc' st' hj
        try rw [hj]
        exact hr _ _ _ _ _ _ _ hx
      · cases hx
    · rename_i q0 q1 q2 q3 q4
      split at hx
      · rename_i st' h' hj
        exact hr _ _ _ _ _ _ _ hx
      · cases hx
theorem ve_mono1 : ∀ (n d mi pc : Nat) (lv : ve_V) (st : List Value) (h : ve_H) (x : ve_O × ve_H), ve_run n d mi pc lv st h = some x → ve_run (n + 1) d mi pc lv st h = some x
  | 0, _, _, _, _, _, _, _, hx => by cases hx
  | n + 1, d, mi, pc, lv, st, h, x, hx => by
    rw [ve_run_S] at hx ⊢
    exact ve_F_mono (ve_mono1 n) hx
theorem ve_mono {n d mi pc : Nat} {lv : ve_V} {st : List Value} {h : ve_H} {x : ve_O × ve_H} (hx : ve_run n d mi pc lv st h = some x) : ∀ k, ve_run (n + k) d mi pc lv st h = some x
  | 0 => hx
  | k + 1 => ve_mono1 _ _ _ _ _ _ _ _ (ve_mono hx k)
