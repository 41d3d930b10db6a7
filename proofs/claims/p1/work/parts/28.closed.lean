/-! The law's start: both constructors, run over a closed heap by evaluation, and carried over to the heap with the script -/
noncomputable def vx_hz : ve_H := ((1, 0), ve_mk (0, 0) 8, ve_m2 0, ve_m2 0, ve_m2 none)
/-- what the ints are at the start -/
def vx_ii (a i : Nat) : Int32 := bif a.beq 29 then -1 else match a, i with
  | 1, 8 => 1
  | 23, 0 => 5
  | 34, 0 => 5
  | 45, 0 => 5
  | 334, 0 => 5
  | 617, 0 => 8
  | 621, 0 => 8
  | 625, 31 => 1
  | _, _ => 0
def vx_rb (a : Nat) : Nat := bif Nat.blt (vx_ka a) 20 then vx_za a else bif (vx_ka a).beq 24 then 31 else 0
noncomputable def vx_chk1 (h : ve_H) (a : Nat) : Bool :=
  (ve_k h a).beq (vx_ka a) && ((ve_z h a).beq (vx_za a) && ((List.range (vx_rb a)).all (fun k => !vx_fz (vx_ka a) k || decide (ve_R h a k = vx_ra a k)) &&
    (!(Nat.blt (vx_ka a) 20 || (vx_za a).beq 16 || (vx_za a).beq 512 || (vx_za a).beq 2) || (List.range (vx_za a)).all (fun i => decide (ve_I h a i = vx_ii a i)))))
noncomputable def vx_chk (h : ve_H) : Bool := (List.range 672).all (fun a => vx_chk1 h (a + 1)) && (decide (ve_R h 1 3 = some 39) && (decide (ve_R h 1 4 = some 328) && (decide (ve_R h 1 5 = some 617) && (decide (ve_R h 1 6 = some 621) && decide (ve_R h 7 8 = some 8)))))
noncomputable def vx_two : Option ve_H := match ve_run 8300 999 0 0 (ve_en [.ref 1] 1) [] (ve_new vx_hz 1 13) with
  | some (.inl none, h1) => bif (ve_n h1).beq 625 && (ve_u h1).beq 19926 then (match ve_run 300 999 18 0 (ve_en [.ref 625] 1) [] (ve_new h1 9 79) with
    | some (.inl none, h2) => some (ve_new h2 21 1)
    | _ => none) else none
  | _ => none
set_option maxRecDepth 100000 in
theorem vx_two_ok : (match vx_two with | some h => vx_chk h && ((ve_n h).beq 673 && (ve_u h).beq 38722) | none => false) = true := by decide +kernel
