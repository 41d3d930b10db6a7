/-! The heap of the small machine in the JVM's machine -/
/-- of the exceptions one field is looked at, which Throwable declares -/
def ve_xk (kd : Nat) : Bool := Nat.ble 10 kd && Nat.ble kd 12
def ve_fsx (kd : Nat) : List (String × String × Bool) := bif ve_xk kd then [("backtrace", "Ljava/lang/Object;", false)] else ve_fs kd
def ve_tcx (kd : Nat) : List Nat := bif ve_xk kd then [2] else ve_tc kd
def ve_dn (kd : Nat) : String := bif ve_xk kd then "java/lang/Throwable" else ve_nm kd
def ve_tt (kd : Nat) : u_T := fun k => (ve_dn kd, ((ve_fsx kd).getD k ("", "", false)).1, ((ve_fsx kd).getD k ("", "", false)).2.1, ((ve_fsx kd).getD k ("", "", false)).2.2)
def ve_nf (kd : Nat) : Nat := (ve_fsx kd).length
def ve_ty (kd k : Nat) : FieldType := bif ve_xk kd then .object "java/lang/Object" else (ve_ft kd).getD k .int
theorem ve_xk9 {kd : Nat} (h : kd ≤ 9) : ve_xk kd = false := by
  unfold ve_xk
  cases hb : Nat.ble 10 kd with
  | false => rfl
  | true =>
    have := Nat.le_of_ble_eq_true hb
    omega
theorem ve_dn9 {kd : Nat} (h : kd ≤ 9) : ve_dn kd = ve_nm kd := by
  unfold ve_dn
  rw [ve_xk9 h]
  rfl
theorem ve_tcx9 {kd : Nat} (h : kd ≤ 9) : ve_tcx kd = ve_tc kd := by
  unfold ve_tcx
  rw [ve_xk9 h]
  rfl
def ve_gd (w : Cond) : Bool := decide (w ∈ lw_tbl) && goodWord w
def ve_tcb (t : Nat) (ty : FieldType) : Bool := match t, ty with
  | 0, .int => true
  | 1, .long => true
  | 2, .object _ => true
  | 2, .array _ => true
  | 3, .boolean => true
  | _, _ => false
def ve_ckc (kd : Nat) : Bool := (List.range (ve_nf kd)).all (fun k => ve_gd (u_lay (ve_nm kd) (ve_tt kd) k) && (decide (parseFieldDescriptor (ve_tt kd k).2.2.1 = some (ve_ty kd k)) && ve_tcb ((ve_tcx kd).getD k 9) (ve_ty kd k)))
  && (List.range (ve_nf kd)).all (fun a => (List.range (ve_nf kd)).all (fun b => decide (a = b) || decide ((ve_tt kd a).2.1 ≠ (ve_tt kd b).2.1)))
set_option maxRecDepth 100000 in
theorem ve_ckc_a : [1, 2, 3, 4, 5, 6, 7, 8].all ve_ckc = true := by decide +kernel
set_option maxRecDepth 100000 in
theorem ve_ckc_c : [10, 11, 12].all ve_ckc = true := by decide +kernel
