/-! The machine's instructions on the heap, its calls, its run -/
def ve_as {β : Type} : List (Nat × β) → Nat → Option β
  | [], _ => none
  | q :: r, k => bif q.1.beq k then some q.2 else ve_as r k
def ve_rk (h : ve_H) (z : Nat) : Bool := Nat.ble (ve_n h) 600002 && Nat.ble (ve_u h + z) 7302232
def ve_nk : ArrayType → Nat
  | .int => 20
  | .long => 21
  | .byte => 22
  | .boolean => 23
  | _ => 0
noncomputable def ve_h_getfield (own : Nat) (idx : Nat) (st : List Value) (h : ve_H) : Option (List Value × ve_H) := match st with
    | .ref a :: r => match ve_as (ve_fo own) idx with
      | some (kd, k, _) => bif (ve_k h a).beq kd then
          (match (ve_tc kd).getD k 9 with
           | 0 => some (.int (ve_I h a k) :: r, h)
           | 1 => some (.long (ve_L h a k) :: r, h)
           | 2 => (match ve_R h a k with | some b => some (.ref b :: r, h) | none => none)
           | 3 => some (.int (ve_I h a k) :: r, h)
           | _ => none) else none
      | none => none
    | _ => none
noncomputable def ve_h_putfield (own : Nat) (ini : Bool) (idx : Nat) (st : List Value) (h : ve_H) : Option (List Value × ve_H) := match st with
    | .int v :: .ref a :: r => match ve_as (ve_fo own) idx with
      | some (kd, k, fin) => bif (ve_k h a).beq kd && (!fin || (ini && own.beq kd)) then
          (match (ve_tc kd).getD k 9 with
           | 0 => some (r, ve_sI h a k v)
           | 3 => if v = 0 ∨ v = 1 then some (r, ve_sI h a k v) else none
           | _ => none) else none
      | none => none
    | .long v :: .ref a :: r => match ve_as (ve_fo own) idx with
      | some (kd, k, fin) => bif (ve_k h a).beq kd && (!fin || (ini && own.beq kd)) then
          (match (ve_tc kd).getD k 9 with
           | 1 => some (r, ve_sL h a k v)
           | _ => none) else none
      | none => none
    | .ref b :: .ref a :: r => match ve_as (ve_fo own) idx with
      | some (kd, k, fin) => bif (ve_k h a).beq kd && (!fin || (ini && own.beq kd)) then
          (match (ve_tc kd).getD k 9 with
           | 2 => some (r, ve_sR h a k (some b))
           | _ => none) else none
      | none => none
    | _ => none
noncomputable def ve_h_arraylength (st : List Value) (h : ve_H) : Option (List Value × ve_H) := match st with
    | .ref a :: r => bif Nat.ble 20 (ve_k h a) then some (.int (Int32.ofNat (ve_z h a)) :: r, h) else none
    | _ => none
noncomputable def ve_h_iaload (st : List Value) (h : ve_H) : Option (List Value × ve_H) := match st with
    | .int i :: .ref a :: r => bif (ve_k h a).beq 20 || (ve_k h a).beq 30 then
        (if i < 0 ∨ ve_z h a ≤ i.toNatClampNeg then none else some (.int (ve_I h a i.toNatClampNeg) :: r, h)) else none
    | _ => none
noncomputable def ve_h_baload (st : List Value) (h : ve_H) : Option (List Value × ve_H) := match st with
    | .int i :: .ref a :: r => bif (ve_k h a).beq 22 || (ve_k h a).beq 23 then
        (if i < 0 ∨ ve_z h a ≤ i.toNatClampNeg then none else some (.int (ve_I h a i.toNatClampNeg) :: r, h)) else none
    | _ => none
noncomputable def ve_h_laload (st : List Value) (h : ve_H) : Option (List Value × ve_H) := match st with
    | .int i :: .ref a :: r => bif (ve_k h a).beq 21 then
        (if i < 0 ∨ ve_z h a ≤ i.toNatClampNeg then none else some (.long (ve_L h a i.toNatClampNeg) :: r, h)) else none
    | _ => none
noncomputable def ve_h_aaload (st : List Value) (h : ve_H) : Option (List Value × ve_H) := match st with
    | .int i :: .ref a :: r => bif (ve_k h a).beq 24 then
        (if i < 0 ∨ ve_z h a ≤ i.toNatClampNeg then none else match ve_R h a i.toNatClampNeg with | some b => some (.ref b :: r, h) | none => none) else none
    | _ => none
noncomputable def ve_h_iastore (st : List Value) (h : ve_H) : Option (List Value × ve_H) := match st with
    | .int v :: .int i :: .ref a :: r => bif (ve_k h a).beq 20 then
        (if i < 0 ∨ ve_z h a ≤ i.toNatClampNeg then none else some (r, ve_sI h a i.toNatClampNeg v)) else none
    | _ => none
noncomputable def ve_h_bastore (st : List Value) (h : ve_H) : Option (List Value × ve_H) := match st with
    | .int v :: .int i :: .ref a :: r => bif (ve_k h a).beq 22 then
        (if i < 0 ∨ ve_z h a ≤ i.toNatClampNeg then none else some (r, ve_sI h a i.toNatClampNeg v.toInt8.toInt32))
      else bif (ve_k h a).beq 23 then
        (if i < 0 ∨ ve_z h a ≤ i.toNatClampNeg then none else if v = 0 ∨ v = 1 then some (r, ve_sI h a i.toNatClampNeg v) else none)
      else none
    | _ => none
noncomputable def ve_h_lastore (st : List Value) (h : ve_H) : Option (List Value × ve_H) := match st with
    | .long v :: .int i :: .ref a :: r => bif (ve_k h a).beq 21 then
        (if i < 0 ∨ ve_z h a ≤ i.toNatClampNeg then none else some (r, ve_sL h a i.toNatClampNeg v)) else none
    | _ => none
noncomputable def ve_h_aastore (st : List Value) (h : ve_H) : Option (List Value × ve_H) := match st with
    | .ref v :: .int i :: .ref a :: r => bif (ve_k h a).beq 24 && (ve_k h v).beq 7 then
        (if i < 0 ∨ ve_z h a ≤ i.toNatClampNeg then none else some (r, ve_sR h a i.toNatClampNeg (some v))) else none
    | _ => none
noncomputable def ve_h_newarray (t : ArrayType) (st : List Value) (h : ve_H) : Option (List Value × ve_H) := match st with
    | .int n :: r => bif Nat.ble 20 (ve_nk t) && (ve_rk h n.toNatClampNeg && Nat.ble (n.toNatClampNeg * 8) 536870912) then
        (if n < 0 then none else some (.ref (ve_n h) :: r, ve_new h (ve_nk t) n.toNatClampNeg)) else none
    | _ => none
noncomputable def ve_h_anewarray (own : Nat) (idx : Nat) (st : List Value) (h : ve_H) : Option (List Value × ve_H) := match st with
    | .int n :: r => match ve_as (ve_no own) idx with
      | some (kd, _) => bif kd.beq 7 && (ve_rk h n.toNatClampNeg && Nat.ble (n.toNatClampNeg * 8) 536870912) then
          (if n < 0 then none else some (.ref (ve_n h) :: r, ve_new h 24 n.toNatClampNeg)) else none
      | none => none
    | _ => none
noncomputable def ve_h_new (own : Nat) (idx : Nat) (st : List Value) (h : ve_H) : Option (List Value × ve_H) := match ve_as (ve_no own) idx with
    | some (kd, z) => bif ve_rk h z then some (.ref (ve_n h) :: st, ve_new h kd z) else none
    | none => none
noncomputable def ve_h_ldc2_w (own : Nat) (idx : Nat) (st : List Value) (h : ve_H) : Option (List Value × ve_H) := match ve_as (ve_lo own) idx with
    | some v => some (.long v :: st, h)
    | none => none
noncomputable def ve_he (own : Nat) (ini : Bool) (i : Instr) (st : List Value) (h : ve_H) : Option (List Value × ve_H) := match i with
  | .getfield idx => ve_h_getfield own idx st h
  | .putfield idx => ve_h_putfield own ini idx st h
  | .arraylength => ve_h_arraylength st h
  | .iaload => ve_h_iaload st h
  | .baload => ve_h_baload st h
  | .laload => ve_h_laload st h
  | .aaload => ve_h_aaload st h
  | .iastore => ve_h_iastore st h
  | .bastore => ve_h_bastore st h
  | .lastore => ve_h_lastore st h
  | .aastore => ve_h_aastore st h
  | .newarray t => ve_h_newarray t st h
  | .anewarray idx => ve_h_anewarray own idx st h
  | .new idx => ve_h_new own idx st h
  | .ldc2_w idx => ve_h_ldc2_w own idx st h
  | _ => none
/-- a copy between arrays of longs, out of the memory as it was -/
noncomputable def ve_cp (h0 : ve_H) (src sp dst dp : Nat) (h : ve_H) : Nat → ve_H
  | 0 => h
  | k + 1 => ve_sL (ve_cp h0 src sp dst dp h k) dst (dp + k) (ve_L h0 src (sp + k))
/-- which rule an instruction goes by: 0 returns, 1 throws, 2 calls, 3 jumps, 5 touches the heap, 4 the rest -/
def ve_ct : Instr → Nat
  | .ireturn => 0
  | .lreturn => 0
  | .return_ => 0
  | .athrow => 1
  | .invokevirtual _ => 2
  | .invokestatic _ => 2
  | .invokespecial _ => 2
  | .goto _ => 3
  | .ifCond _ _ => 3
  | .if_icmp _ _ => 3
  | .tableswitch _ _ _ _ => 3
  | .lookupswitch _ _ => 3
  | .getfield _ => 5
  | .putfield _ => 5
  | .arraylength => 5
  | .iaload => 5
  | .baload => 5
  | .laload => 5
  | .aaload => 5
  | .iastore => 5
  | .bastore => 5
  | .lastore => 5
  | .aastore => 5
  | .newarray _ => 5
  | .anewarray _ => 5
  | .new _ => 5
  | .ldc2_w _ => 5
  | _ => 4
def ve_rv (rt : Option FieldType) (i : Instr) (st : List Value) : Option (Option Value) := match i with
  | .ireturn => match st with
    | [.int v] => match rt with
      | some .int => some (some (.int v))
      | some .boolean => if v = 0 ∨ v = 1 then some (some (.int v)) else none
      | _ => none
    | _ => none
  | .lreturn => match st with
    | [.long v] => match rt with
      | some .long => some (some (.long v))
      | _ => none
    | _ => none
  | .return_ => match st with
    | [] => match rt with
      | none => some none
      | _ => none
    | _ => none
  | _ => none
/-- the pool index of a call, and which ways of calling it may be -/
def ve_ci : Instr → Nat × Nat
  | .invokevirtual i => (i, 3)
  | .invokestatic i => (i, 4)
  | .invokespecial i => (i, 5)
  | _ => (0, 0)
def ve_hw (w how : Nat) : Bool := match how with
  | 0 => w.beq 5
  | 1 => w.beq 5
  | 2 => w.beq 4
  | 3 => w.beq 3
  | 4 => w.beq 4
  | 5 => w.beq 5
  | 14 => w.beq 4
  | 15 => w.beq 5
  | _ => false
def ve_rc (h : ve_H) (kd : Nat) : List Value → Bool
  | .ref a :: _ => (ve_k h a).beq kd
  | _ => false
def ve_hk : Nat → Nat
  | 13 => 10
  | 19 => 11
  | 31 => 12
  | _ => 0
def ve_hf : List (Nat × Nat × Nat × Nat) → Nat → Nat → Option Nat
  | [], _, _ => none
  | q :: r, pc, kd => bif Nat.ble q.1 pc && Nat.blt pc q.2.1 then (bif (ve_hk q.2.2.2).beq kd then some q.2.2.1 else ve_hf r pc kd) else ve_hf r pc kd
abbrev ve_O : Type := Option Value ⊕ Nat
noncomputable def ve_run : Nat → Nat → Nat → Nat → ve_V → List Value → ve_H → Option (ve_O × ve_H)
  | 0, _, _, _, _, _, _ => none
  | n + 1, d, mi, pc, lv, st, h => match ve_f mi pc with
    | none => none
    | some (i, len) => match ve_ct i with
      | 0 => match ve_rv (ve_rt mi) i st with
        | some v => some (.inl v, h)
        | none => none
      | 1 => match st with
        | .ref a :: _ => bif Nat.ble 10 (ve_k h a) && (Nat.ble (ve_k h a) 12 && (ve_hs mi).isEmpty) then some (.inr a, h) else none
        | _ => none
      | 2 => match ve_as (ve_co (ve_ow mi)) (ve_ci i).1 with
        | none => none
        | some (how, cm, np) => bif ve_hw (ve_ci i).2 how then
            (match how with
             | 0 => match st with
               | .ref _ :: r => bif Nat.ble (ve_wd r) 20 then ve_run n d mi (pc + 3) lv r h else none
               | _ => none
             | 1 => match st with
               | .ref a :: r => bif (ve_k h a).beq cm && Nat.ble (ve_wd r) 20 then ve_run n d mi (pc + 3) lv r h else none
               | _ => none
             | 2 => match st with
               | .int k :: .int dp :: .ref dst :: .int sp :: .ref src :: r =>
                 bif (ve_k h src).beq 21 && ((ve_k h dst).beq 21 && Nat.ble (ve_wd r) 20) then
                   (if k < 0 ∨ sp < 0 ∨ dp < 0 ∨ ve_z h src < sp.toNatClampNeg + k.toNatClampNeg ∨ ve_z h dst < dp.toNatClampNeg + k.toNatClampNeg then none
                    else ve_run n d mi (pc + 3) lv r (ve_cp h src sp.toNatClampNeg dst dp.toNatClampNeg h k.toNatClampNeg)) else none
               | _ => none
             | _ => bif (st.take np).length.beq np && (Nat.ble (ve_wd (st.drop np)) 20 && (Nat.ble (ve_wd (st.take np).reverse) (ve_ml cm) && ((how.beq 4 || how.beq 14) || ve_rc h (ve_ow cm) (st.take np).reverse))) then
                 (match d with
                  | 0 => none
                  | d' + 1 => match ve_run n d' cm 0 (ve_en (st.take np).reverse (ve_ml cm)) [] h with
                    | none => none
                    | some (.inl v, h') => ve_run n (d' + 1) mi (pc + 3) lv (v.toList ++ st.drop np) h'
                    | some (.inr a, h') => match ve_hs mi with
                      | [] => some (.inr a, h')
                      | hs => match ve_hf hs pc (ve_k h' a) with
                        | some hp => ve_run n (d' + 1) mi hp lv [.ref a] h'
                        | none => none) else none) else none
      | 3 => match ve_jp i pc st with
        | some (pc', st') => ve_run n d mi pc' lv st' h
        | none => none
      | 4 => match ve_pu (ve_ml mi) i lv st with
        | some (lv', st') => ve_run n d mi (pc + len) lv' st' h
        | none => none
      | _ => match ve_he (ve_ow mi) (ve_ini mi) i st h with
        | some (st', h') => ve_run n d mi (pc + len) lv st' h'
        | none => none
def ve_of {α : Type} : (n : Nat) → (Nat → α) → ve_T α n
  | 0, f => f
  | n + 1, f => (ve_of n (fun k => f (2 * k)), ve_of n (fun k => f (2 * k + 1)))
theorem ve_gt_of {α : Type} : ∀ (n : Nat) (f : Nat → α) (k : Nat), ve_gt n (ve_of n f) k = f k
  | 0, f, k => rfl
  | n + 1, f, k => by
    show (bif (k % 2).beq 0 then ve_gt n (ve_of n (fun k => f (2 * k))) (k / 2) else ve_gt n (ve_of n (fun k => f (2 * k + 1))) (k / 2)) = f k
    by_cases h : k % 2 = 0
    · rw [ve_beq_t h]
      show ve_gt n (ve_of n (fun k => f (2 * k))) (k / 2) = f k
      rw [ve_gt_of n]
      congr 1
      omega
    · rw [ve_beq_f h]
      show ve_gt n (ve_of n (fun k => f (2 * k + 1))) (k / 2) = f k
      rw [ve_gt_of n]
      congr 1
      omega
/-- the memory at the law's entry: the script alone -/
def ve_h0 (L : Nat) (xs : Nat → Int32) : ve_H := ((1, 0), ve_st 8 (ve_mk (0, 0) 8) 0 (30, L), ve_st 8 (ve_mk (ve_mk 0 6) 8) 0 (ve_of 6 xs), ve_m2 0, ve_m2 none)
theorem ve_h0_n (L : Nat) (xs : Nat → Int32) : ve_n (ve_h0 L xs) = 1 := rfl
theorem ve_h0_u (L : Nat) (xs : Nat → Int32) : ve_u (ve_h0 L xs) = 0 := rfl
theorem ve_h0_k (L : Nat) (xs : Nat → Int32) (a : Nat) : ve_k (ve_h0 L xs) a = if a = 0 then 30 else 0 := by
  show (ve_gt 8 (ve_st 8 (ve_mk (0, 0) 8) 0 (30, L)) a).1 = _
  rw [ve_gt_st, ve_gt_mk]
  by_cases h : a = 0
  · rw [if_pos h, if_pos h]
  · rw [if_neg h, if_neg h]
theorem ve_h0_z (L : Nat) (xs : Nat → Int32) (a : Nat) : ve_z (ve_h0 L xs) a = if a = 0 then L else 0 := by
  show (ve_gt 8 (ve_st 8 (ve_mk (0, 0) 8) 0 (30, L)) a).2 = _
  rw [ve_gt_st, ve_gt_mk]
  by_cases h : a = 0
  · rw [if_pos h, if_pos h]
  · rw [if_neg h, if_neg h]
theorem ve_h0_I (L : Nat) (xs : Nat → Int32) (a i : Nat) : ve_I (ve_h0 L xs) a i = if a = 0 then xs i else 0 := by
  show ve_gt 6 (ve_gt 8 (ve_st 8 (ve_mk (ve_mk 0 6) 8) 0 (ve_of 6 xs)) a) i = _
  rw [ve_gt_st, ve_gt_mk]
  by_cases h : a = 0
  · rw [if_pos h, if_pos h, ve_gt_of]
  · rw [if_neg h, if_neg h, ve_gt_mk]
theorem ve_h0_L (L : Nat) (xs : Nat → Int32) (a i : Nat) : ve_L (ve_h0 L xs) a i = 0 := ve_g2_m2 0 a i
theorem ve_h0_R (L : Nat) (xs : Nat → Int32) (a i : Nat) : ve_R (ve_h0 L xs) a i = none := ve_g2_m2 none a i
