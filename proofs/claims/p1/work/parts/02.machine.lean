/-! A SMALL MACHINE OF MY OWN: locals, stack, a typed memory; what it computes, the JVM's machine computes (part 05 on). -/
/-- a memory: a tree over a number's bits, functions at its leaves -/
def ve_T (α : Type) : Nat → Type
  | 0 => Nat → α
  | n + 1 => ve_T α n × ve_T α n
def ve_mk {α : Type} (d : α) : (n : Nat) → ve_T α n
  | 0 => fun _ => d
  | n + 1 => (ve_mk d n, ve_mk d n)
def ve_gt {α : Type} : (n : Nat) → ve_T α n → Nat → α
  | 0, f, k => f k
  | n + 1, t, k => bif (k % 2).beq 0 then ve_gt n t.1 (k / 2) else ve_gt n t.2 (k / 2)
def ve_st {α : Type} : (n : Nat) → ve_T α n → Nat → α → ve_T α n
  | 0, f, k, v => fun j => bif j.beq k then v else f j
  | n + 1, t, k, v => bif (k % 2).beq 0 then (ve_st n t.1 (k / 2) v, t.2) else (t.1, ve_st n t.2 (k / 2) v)
theorem ve_beq_t {a b : Nat} (h : a = b) : a.beq b = true := by subst h; exact Nat.beq_refl a
theorem ve_beq_f {a b : Nat} (h : a ≠ b) : a.beq b = false := by
  cases hb : a.beq b with
  | false => rfl
  | true => exact absurd (Nat.eq_of_beq_eq_true hb) h
theorem ve_gt_mk {α : Type} (d : α) : ∀ (n k : Nat), ve_gt n (ve_mk d n) k = d
  | 0, k => rfl
  | n + 1, k => by
    show (bif (k % 2).beq 0 then ve_gt n (ve_mk d n) (k / 2) else ve_gt n (ve_mk d n) (k / 2)) = d
    cases (k % 2).beq 0 <;> exact ve_gt_mk d n (k / 2)
theorem ve_gt_st {α : Type} : ∀ (n : Nat) (t : ve_T α n) (k : Nat) (v : α) (j : Nat), ve_gt n (ve_st n t k v) j = if j = k then v else ve_gt n t j
  | 0, f, k, v, j => by
    show (bif j.beq k then v else f j) = if j = k then v else f j
    by_cases h : j = k
    · rw [ve_beq_t h, if_pos h]; rfl
    · rw [ve_beq_f h, if_neg h]; rfl
  | n + 1, t, k, v, j => by
    show ve_gt (n + 1) (bif (k % 2).beq 0 then (ve_st n t.1 (k / 2) v, t.2) else (t.1, ve_st n t.2 (k / 2) v)) j = if j = k then v else ve_gt (n + 1) t j
    by_cases hk : k % 2 = 0 <;> by_cases hj : j % 2 = 0
    · rw [ve_beq_t hk]
      show (bif (j % 2).beq 0 then ve_gt n (ve_st n t.1 (k / 2) v) (j / 2) else ve_gt n t.2 (j / 2)) = if j = k then v else (bif (j % 2).beq 0 then ve_gt n t.1 (j / 2) else ve_gt n t.2 (j / 2))
      rw [ve_beq_t hj]
      show ve_gt n (ve_st n t.1 (k / 2) v) (j / 2) = if j = k then v else ve_gt n t.1 (j / 2)
      rw [ve_gt_st n t.1 (k / 2) v (j / 2)]
      by_cases h : j = k
      · rw [if_pos h, if_pos (by rw [h])]
      · rw [if_neg h, if_neg (by omega)]
    · rw [ve_beq_t hk]
      show (bif (j % 2).beq 0 then ve_gt n (ve_st n t.1 (k / 2) v) (j / 2) else ve_gt n t.2 (j / 2)) = if j = k then v else (bif (j % 2).beq 0 then ve_gt n t.1 (j / 2) else ve_gt n t.2 (j / 2))
      rw [ve_beq_f hj, if_neg (by intro h; rw [h] at hj; exact hj hk)]
      rfl
    · rw [ve_beq_f hk]
      show (bif (j % 2).beq 0 then ve_gt n t.1 (j / 2) else ve_gt n (ve_st n t.2 (k / 2) v) (j / 2)) = if j = k then v else (bif (j % 2).beq 0 then ve_gt n t.1 (j / 2) else ve_gt n t.2 (j / 2))
      rw [ve_beq_t hj, if_neg (by intro h; rw [h] at hj; exact hk hj)]
      rfl
    · rw [ve_beq_f hk]
      show (bif (j % 2).beq 0 then ve_gt n t.1 (j / 2) else ve_gt n (ve_st n t.2 (k / 2) v) (j / 2)) = if j = k then v else (bif (j % 2).beq 0 then ve_gt n t.1 (j / 2) else ve_gt n t.2 (j / 2))
      rw [ve_beq_f hj]
      show ve_gt n (ve_st n t.2 (k / 2) v) (j / 2) = if j = k then v else ve_gt n t.2 (j / 2)
      rw [ve_gt_st n t.2 (k / 2) v (j / 2)]
      by_cases h : j = k
      · rw [if_pos h, if_pos (by rw [h])]
      · rw [if_neg h, if_neg (by omega)]
abbrev ve_M (α : Type) : Type := ve_T (ve_T α 6) 8
def ve_g2 {α : Type} (m : ve_M α) (a i : Nat) : α := ve_gt 6 (ve_gt 8 m a) i
def ve_s2 {α : Type} (m : ve_M α) (a i : Nat) (v : α) : ve_M α := ve_st 8 m a (ve_st 6 (ve_gt 8 m a) i v)
def ve_m2 {α : Type} (d : α) : ve_M α := ve_mk (ve_mk d 6) 8
theorem ve_g2_m2 {α : Type} (d : α) (a i : Nat) : ve_g2 (ve_m2 d) a i = d := by
  unfold ve_g2 ve_m2
  rw [ve_gt_mk, ve_gt_mk]
theorem ve_g2_s2 {α : Type} (m : ve_M α) (a i : Nat) (v : α) (b j : Nat) : ve_g2 (ve_s2 m a i v) b j = if b = a ∧ j = i then v else ve_g2 m b j := by
  unfold ve_g2 ve_s2
  rw [ve_gt_st]
  by_cases hb : b = a
  · subst hb
    rw [if_pos rfl, ve_gt_st]
    by_cases hj : j = i
    · rw [if_pos hj, if_pos ⟨rfl, hj⟩]
    · rw [if_neg hj, if_neg (fun h => hj h.2)]
  · rw [if_neg hb, if_neg (fun h => hb h.1)]
/-- the heap: how many cells, how many slots in all; by cells the kind and the size; the ints, the longs, the references -/
abbrev ve_H : Type := (Nat × Nat) × ve_T (Nat × Nat) 8 × ve_M Int32 × ve_M Int64 × ve_M (Option Nat)
def ve_n (h : ve_H) : Nat := h.1.1
def ve_u (h : ve_H) : Nat := h.1.2
def ve_k (h : ve_H) (a : Nat) : Nat := (ve_gt 8 h.2.1 a).1
def ve_z (h : ve_H) (a : Nat) : Nat := (ve_gt 8 h.2.1 a).2
def ve_I (h : ve_H) (a i : Nat) : Int32 := ve_g2 h.2.2.1 a i
def ve_L (h : ve_H) (a i : Nat) : Int64 := ve_g2 h.2.2.2.1 a i
def ve_R (h : ve_H) (a i : Nat) : Option Nat := ve_g2 h.2.2.2.2 a i
def ve_sI (h : ve_H) (a i : Nat) (v : Int32) : ve_H := (h.1, h.2.1, ve_s2 h.2.2.1 a i v, h.2.2.2)
def ve_sL (h : ve_H) (a i : Nat) (v : Int64) : ve_H := (h.1, h.2.1, h.2.2.1, ve_s2 h.2.2.2.1 a i v, h.2.2.2.2)
def ve_sR (h : ve_H) (a i : Nat) (v : Option Nat) : ve_H := (h.1, h.2.1, h.2.2.1, h.2.2.2.1, ve_s2 h.2.2.2.2 a i v)
def ve_new (h : ve_H) (kd z : Nat) : ve_H := ((h.1.1 + 1, h.1.2 + z), ve_st 8 h.2.1 h.1.1 (kd, z), h.2.2)
section Mem
variable (h : ve_H) (a i b j kd z : Nat)
theorem ve_n_sI (v : Int32) : ve_n (ve_sI h a i v) = ve_n h := rfl
theorem ve_n_sL (v : Int64) : ve_n (ve_sL h a i v) = ve_n h := rfl
theorem ve_n_sR (v : Option Nat) : ve_n (ve_sR h a i v) = ve_n h := rfl
theorem ve_u_sI (v : Int32) : ve_u (ve_sI h a i v) = ve_u h := rfl
theorem ve_u_sL (v : Int64) : ve_u (ve_sL h a i v) = ve_u h := rfl
theorem ve_u_sR (v : Option Nat) : ve_u (ve_sR h a i v) = ve_u h := rfl
theorem ve_k_sI (v : Int32) : ve_k (ve_sI h a i v) b = ve_k h b := rfl
theorem ve_k_sL (v : Int64) : ve_k (ve_sL h a i v) b = ve_k h b := rfl
theorem ve_k_sR (v : Option Nat) : ve_k (ve_sR h a i v) b = ve_k h b := rfl
theorem ve_z_sI (v : Int32) : ve_z (ve_sI h a i v) b = ve_z h b := rfl
theorem ve_z_sL (v : Int64) : ve_z (ve_sL h a i v) b = ve_z h b := rfl
theorem ve_z_sR (v : Option Nat) : ve_z (ve_sR h a i v) b = ve_z h b := rfl
theorem ve_I_sL (v : Int64) : ve_I (ve_sL h a i v) b j = ve_I h b j := rfl
theorem ve_I_sR (v : Option Nat) : ve_I (ve_sR h a i v) b j = ve_I h b j := rfl
theorem ve_L_sI (v : Int32) : ve_L (ve_sI h a i v) b j = ve_L h b j := rfl
theorem ve_L_sR (v : Option Nat) : ve_L (ve_sR h a i v) b j = ve_L h b j := rfl
theorem ve_R_sI (v : Int32) : ve_R (ve_sI h a i v) b j = ve_R h b j := rfl
theorem ve_R_sL (v : Int64) : ve_R (ve_sL h a i v) b j = ve_R h b j := rfl
theorem ve_I_sI (v : Int32) : ve_I (ve_sI h a i v) b j = if b = a ∧ j = i then v else ve_I h b j := ve_g2_s2 _ a i v b j
theorem ve_L_sL (v : Int64) : ve_L (ve_sL h a i v) b j = if b = a ∧ j = i then v else ve_L h b j := ve_g2_s2 _ a i v b j
theorem ve_R_sR (v : Option Nat) : ve_R (ve_sR h a i v) b j = if b = a ∧ j = i then v else ve_R h b j := ve_g2_s2 _ a i v b j
theorem ve_n_new : ve_n (ve_new h kd z) = ve_n h + 1 := rfl
theorem ve_u_new : ve_u (ve_new h kd z) = ve_u h + z := rfl
theorem ve_I_new : ve_I (ve_new h kd z) b j = ve_I h b j := rfl
theorem ve_L_new : ve_L (ve_new h kd z) b j = ve_L h b j := rfl
theorem ve_R_new : ve_R (ve_new h kd z) b j = ve_R h b j := rfl
theorem ve_k_new : ve_k (ve_new h kd z) b = if b = ve_n h then kd else ve_k h b := by
  show (ve_gt 8 (ve_st 8 h.2.1 h.1.1 (kd, z)) b).1 = _
  rw [ve_gt_st]
  by_cases hb : b = h.1.1
  · rw [if_pos hb, if_pos (show b = ve_n h from hb)]
  · rw [if_neg hb, if_neg (show ¬ b = ve_n h from hb)]; rfl
theorem ve_z_new : ve_z (ve_new h kd z) b = if b = ve_n h then z else ve_z h b := by
  show (ve_gt 8 (ve_st 8 h.2.1 h.1.1 (kd, z)) b).2 = _
  rw [ve_gt_st]
  by_cases hb : b = h.1.1
  · rw [if_pos hb, if_pos (show b = ve_n h from hb)]
  · rw [if_neg hb, if_neg (show ¬ b = ve_n h from hb)]; rfl
end Mem
/-- locals by their places; the second half of a long, and what was never set: none -/
abbrev ve_V : Type := List (Option Value)
def ve_lg : Option Value → Bool
  | some (.long _) => true
  | some (.double _) => true
  | _ => false
def ve_kl (lv : ve_V) : Nat → ve_V
  | 0 => lv
  | j + 1 => bif ve_lg (lv.getD j none) then lv.set j none else lv
def ve_l1 (lv : ve_V) (i : Nat) (v : Value) : ve_V := (ve_kl lv i).set i (some v)
def ve_l2 (lv : ve_V) (i : Nat) (v : Value) : ve_V := ((ve_kl lv i).set i (some v)).set (i + 1) none
/-- the locals at a method's start -/
def ve_en : List Value → Nat → ve_V
  | [], n => List.replicate n none
  | .long x :: r, n => some (.long x) :: none :: ve_en r (n - 2)
  | .double x :: r, n => some (.double x) :: none :: ve_en r (n - 2)
  | v :: r, n => some v :: ve_en r (n - 1)
def ve_wd : List Value → Nat
  | [] => 0
  | v :: r => v.category + ve_wd r
/-- instructions that touch locals and stack alone -/
def ve_pu (nL : Nat) (i : Instr) (lv : ve_V) (st : List Value) : Option (ve_V × List Value) := match i with
  | .iconst n => some (lv, .int (Int32.ofInt n) :: st)
  | .bipush n => some (lv, .int (Int8.ofInt n).toInt32 :: st)
  | .sipush n => some (lv, .int (Int16.ofInt n).toInt32 :: st)
  | .lconst n => some (lv, .long (Int64.ofNat n) :: st)
  | .iload_n k => match lv.getD k none with | some (.int x) => some (lv, .int x :: st) | _ => none
  | .iload k => match lv.getD k none with | some (.int x) => some (lv, .int x :: st) | _ => none
  | .lload_n k => match lv.getD k none with | some (.long x) => some (lv, .long x :: st) | _ => none
  | .lload k => match lv.getD k none with | some (.long x) => some (lv, .long x :: st) | _ => none
  | .aload_n k => match lv.getD k none with | some (.ref x) => some (lv, .ref x :: st) | _ => none
  | .aload k => match lv.getD k none with | some (.ref x) => some (lv, .ref x :: st) | _ => none
  | .istore_n k => match st with | .int x :: r => bif Nat.blt k nL then some (ve_l1 lv k (.int x), r) else none | _ => none
  | .istore k => match st with | .int x :: r => bif Nat.blt k nL then some (ve_l1 lv k (.int x), r) else none | _ => none
  | .astore_n k => match st with | .ref x :: r => bif Nat.blt k nL then some (ve_l1 lv k (.ref x), r) else none | _ => none
  | .astore k => match st with | .ref x :: r => bif Nat.blt k nL then some (ve_l1 lv k (.ref x), r) else none | _ => none
  | .lstore_n k => match st with | .long x :: r => bif Nat.blt (k + 1) nL then some (ve_l2 lv k (.long x), r) else none | _ => none
  | .lstore k => match st with | .long x :: r => bif Nat.blt (k + 1) nL then some (ve_l2 lv k (.long x), r) else none | _ => none
  | .iinc k n => match lv.getD k none with | some (.int x) => bif Nat.blt k nL then some (ve_l1 lv k (.int (x + Int32.ofInt n)), st) else none | _ => none
  | .iadd => match st with | .int y :: .int x :: r => some (lv, .int (x + y) :: r) | _ => none
  | .isub => match st with | .int y :: .int x :: r => some (lv, .int (x - y) :: r) | _ => none
  | .imul => match st with | .int y :: .int x :: r => some (lv, .int (x * y) :: r) | _ => none
  | .idiv => match st with | .int y :: .int x :: r => if y = 0 then none else some (lv, .int (x / y) :: r) | _ => none
  | .irem => match st with | .int y :: .int x :: r => if y = 0 then none else some (lv, .int (x - x / y * y) :: r) | _ => none
  | .ineg => match st with | .int x :: r => some (lv, .int (-x) :: r) | _ => none
  | .iand => match st with | .int y :: .int x :: r => some (lv, .int (x &&& y) :: r) | _ => none
  | .ior => match st with | .int y :: .int x :: r => some (lv, .int (x ||| y) :: r) | _ => none
  | .ixor => match st with | .int y :: .int x :: r => some (lv, .int (x ^^^ y) :: r) | _ => none
  | .ishl => match st with | .int y :: .int x :: r => some (lv, .int (x <<< (y &&& 31)) :: r) | _ => none
  | .ladd => match st with | .long y :: .long x :: r => some (lv, .long (x + y) :: r) | _ => none
  | .lsub => match st with | .long y :: .long x :: r => some (lv, .long (x - y) :: r) | _ => none
  | .lmul => match st with | .long y :: .long x :: r => some (lv, .long (x * y) :: r) | _ => none
  | .land => match st with | .long y :: .long x :: r => some (lv, .long (x &&& y) :: r) | _ => none
  | .lor => match st with | .long y :: .long x :: r => some (lv, .long (x ||| y) :: r) | _ => none
  | .lxor => match st with | .long y :: .long x :: r => some (lv, .long (x ^^^ y) :: r) | _ => none
  | .lneg => match st with | .long x :: r => some (lv, .long (-x) :: r) | _ => none
  | .lshl => match st with | .int y :: .long x :: r => some (lv, .long (x <<< (y.toInt64 &&& 63)) :: r) | _ => none
  | .lshr => match st with | .int y :: .long x :: r => some (lv, .long (x >>> (y.toInt64 &&& 63)) :: r) | _ => none
  | .lushr => match st with | .int y :: .long x :: r => some (lv, .long (x.toUInt64 >>> (y.toInt64.toUInt64 &&& Int64.toUInt64 63)).toInt64 :: r) | _ => none
  | .lcmp => match st with | .long y :: .long x :: r => some (lv, .int (lg_cmp x y) :: r) | _ => none
  | .i2l => match st with | .int x :: r => some (lv, .long x.toInt64 :: r) | _ => none
  | .l2i => match st with | .long x :: r => some (lv, .int x.toInt32 :: r) | _ => none
  | .i2b => match st with | .int x :: r => some (lv, .int x.toInt8.toInt32 :: r) | _ => none
  | .dup => match st with | .int x :: r => some (lv, .int x :: .int x :: r) | .ref x :: r => some (lv, .ref x :: .ref x :: r) | _ => none
  | .pop => match st with | .int _ :: r => some (lv, r) | .ref _ :: r => some (lv, r) | _ => none
  | .dup2 => match st with
    | .long x :: r => some (lv, .long x :: .long x :: r)
    | .int x :: .ref y :: r => some (lv, .int x :: .ref y :: .int x :: .ref y :: r)
    | _ => none
  | _ => none
/-- branches: where to go -/
def ve_if (c : ClassFile.Cond) (x y : Int32) (t f : Nat) : Nat := match c with
  | .eq => if x = y then t else f
  | .ne => if x = y then f else t
  | .lt => if x < y then t else f
  | .ge => if y ≤ x then t else f
  | .gt => if y < x then t else f
  | .le => if x ≤ y then t else f
def ve_tg (pc : Nat) (off : Int) : Option Nat := match (pc : Int) + off with
  | .ofNat t => some t
  | .negSucc _ => none
def ve_jp (i : Instr) (pc : Nat) (st : List Value) : Option (Nat × List Value) := match i with
  | .goto off => match ve_tg pc off with | some t => some (t, st) | none => none
  | .ifCond c off => match st with
    | .int x :: r => match ve_tg pc off with | some t => some (ve_if c x 0 t (pc + 3), r) | none => none
    | _ => none
  | .if_icmp c off => match st with
    | .int y :: .int x :: r => match ve_tg pc off with | some t => some (ve_if c x y t (pc + 3), r) | none => none
    | _ => none
  | .tableswitch d lo hi offs => match st with
    | .int x :: r => if x.toInt < lo ∨ hi < x.toInt then (match ve_tg pc d with | some t => some (t, r) | none => none)
      else match offs[(x.toInt - lo).toNat]? with
        | some off => (match ve_tg pc off with | some t => some (t, r) | none => none)
        | none => none
    | _ => none
  | .lookupswitch d ps => match st with
    | .int x :: r => bif (ps.toList.zip (ps.toList.drop 1)).all (fun (a, next) => a.1 < next.1) then
        (match ve_tg pc (Op.lookupswitch.offset ps.toList d x.toInt) with | some t => some (t, r) | none => none)
      else none
    | _ => none
  | _ => none
