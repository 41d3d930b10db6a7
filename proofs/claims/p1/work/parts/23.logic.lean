/-! A small logic over the machine: what holds at a run's end; numbers as integers; one rule an instruction (printed by wip/whole/gen_logic.py) -/
def vx_W (d mi pc : Nat) (lv : ve_V) (st : List Value) (h : ve_H) (Q : ve_O → ve_H → Prop) : Prop := ∃ n o h', ve_run n d mi pc lv st h = some (o, h') ∧ Q o h'
def vx_i (x : Int) : Int32 := Int32.ofInt x
def vx_l (x : Int) : Int64 := Int64.ofInt x
abbrev vx_rI (x : Int) : Prop := -2147483648 ≤ x ∧ x < 2147483648
abbrev vx_rL (x : Int) : Prop := -9223372036854775808 ≤ x ∧ x < 9223372036854775808
def vx_J (h : ve_H) (a k : Nat) : Int := (ve_I h a k).toInt
def vx_K (h : ve_H) (a k : Nat) : Int := (ve_L h a k).toInt
def vx_sJ (h : ve_H) (a k : Nat) (x : Int) : ve_H := ve_sI h a k (vx_i x)
def vx_sK (h : ve_H) (a k : Nat) (x : Int) : ve_H := ve_sL h a k (vx_l x)
theorem vx_i_toInt {x : Int} (hx : vx_rI x) : (vx_i x).toInt = x := Int32.toInt_ofInt_of_le hx.1 hx.2
theorem vx_l_toInt {x : Int} (hx : vx_rL x) : (vx_l x).toInt = x := Int64.toInt_ofInt_of_le hx.1 hx.2
theorem vx_i_of (x : Int32) : vx_i x.toInt = x := Int32.ofInt_toInt x
theorem vx_l_of (x : Int64) : vx_l x.toInt = x := Int64.ofInt_toInt x
theorem vx_rI_toInt (x : Int32) : vx_rI x.toInt := ⟨Int32.le_toInt x, Int32.toInt_lt x⟩
theorem vx_rL_toInt (x : Int64) : vx_rL x.toInt := ⟨Int64.le_toInt x, Int64.toInt_lt x⟩
theorem vx_rI_J (h : ve_H) (a k : Nat) : vx_rI (vx_J h a k) := vx_rI_toInt _
theorem vx_rL_K (h : ve_H) (a k : Nat) : vx_rL (vx_K h a k) := vx_rL_toInt _
theorem vx_i_inj {x y : Int} (hx : vx_rI x) (hy : vx_rI y) : vx_i x = vx_i y ↔ x = y := by
  constructor
  · intro h
    have h2 := congrArg Int32.toInt h
    rwa [vx_i_toInt hx, vx_i_toInt hy] at h2
  · intro h; rw [h]
theorem vx_i_lt {x y : Int} (hx : vx_rI x) (hy : vx_rI y) : vx_i x < vx_i y ↔ x < y := by
  rw [Int32.lt_iff_toInt_lt, vx_i_toInt hx, vx_i_toInt hy]
theorem vx_i_le {x y : Int} (hx : vx_rI x) (hy : vx_rI y) : vx_i x ≤ vx_i y ↔ x ≤ y := by
  rw [Int32.le_iff_toInt_le, vx_i_toInt hx, vx_i_toInt hy]
theorem vx_l_inj {x y : Int} (hx : vx_rL x) (hy : vx_rL y) : vx_l x = vx_l y ↔ x = y := by
  constructor
  · intro h
    have h2 := congrArg Int64.toInt h
    rwa [vx_l_toInt hx, vx_l_toInt hy] at h2
  · intro h; rw [h]
theorem vx_l_lt {x y : Int} (hx : vx_rL x) (hy : vx_rL y) : vx_l x < vx_l y ↔ x < y := by
  rw [Int64.lt_iff_toInt_lt, vx_l_toInt hx, vx_l_toInt hy]
theorem vx_i0 : vx_i 0 = 0 := rfl
abbrev vx_at (mi pc : Nat) (i : Instr) (q : Nat) : Prop := ve_f mi pc = some (i, q - pc) ∧ pc + (q - pc) = q
def vx_and (x y : Int) : Int := (vx_i x &&& vx_i y).toInt
def vx_or (x y : Int) : Int := (vx_i x ||| vx_i y).toInt
def vx_xor (x y : Int) : Int := (vx_i x ^^^ vx_i y).toInt
def vx_shl (x y : Int) : Int := (vx_i x <<< (vx_i y &&& 31)).toInt
def vx_div (x y : Int) : Int := (vx_i x / vx_i y).toInt
def vx_rem (x y : Int) : Int := (vx_i x - vx_i x / vx_i y * vx_i y).toInt
def vx_land (x y : Int) : Int := (vx_l x &&& vx_l y).toInt
def vx_lor (x y : Int) : Int := (vx_l x ||| vx_l y).toInt
def vx_lxor (x y : Int) : Int := (vx_l x ^^^ vx_l y).toInt
def vx_lshl (x y : Int) : Int := (vx_l x <<< ((vx_i y).toInt64 &&& 63)).toInt
def vx_lshr (x y : Int) : Int := (vx_l x >>> ((vx_i y).toInt64 &&& 63)).toInt
def vx_lushr (x y : Int) : Int := ((vx_l x).toUInt64 >>> ((vx_i y).toInt64.toUInt64 &&& Int64.toUInt64 63)).toInt64.toInt
/-- how a run ends: with an int, a long, with nothing -/
def vx_RI (P : Int → ve_H → Prop) (o : ve_O) (h : ve_H) : Prop := ∃ x, o = .inl (some (.int (vx_i x))) ∧ vx_rI x ∧ P x h
def vx_RL (P : Int → ve_H → Prop) (o : ve_O) (h : ve_H) : Prop := ∃ x, o = .inl (some (.long (vx_l x))) ∧ vx_rL x ∧ P x h
def vx_RV (P : ve_H → Prop) (o : ve_O) (h : ve_H) : Prop := o = .inl none ∧ P h
def vx_C (d m : Nat) (args : List Value) (h : ve_H) (Q : ve_O → ve_H → Prop) : Prop := vx_W d m 0 (ve_en args (ve_ml m)) [] h Q
def vx_CI (d m : Nat) (args : List Value) (h : ve_H) (P : Int → ve_H → Prop) : Prop := vx_C d m args h (vx_RI P)
def vx_CL (d m : Nat) (args : List Value) (h : ve_H) (P : Int → ve_H → Prop) : Prop := vx_C d m args h (vx_RL P)
def vx_CV (d m : Nat) (args : List Value) (h : ve_H) (P : ve_H → Prop) : Prop := vx_C d m args h (vx_RV P)
section
variable {d mi pc q t : Nat} {lv lv' : ve_V} {st : List Value} {h : ve_H} {Q : ve_O → ve_H → Prop}
theorem vx_mono {Q' : ve_O → ve_H → Prop} (k : vx_W d mi pc lv st h Q) (hq : ∀ o h1, Q o h1 → Q' o h1) : vx_W d mi pc lv st h Q' := by
  obtain ⟨n, o, h', hr, hQ⟩ := k
  exact ⟨n, o, h', hr, hq o h' hQ⟩
theorem vx_CI_mono {m : Nat} {args : List Value} {P P' : Int → ve_H → Prop} (k : vx_CI d m args h P) (hq : ∀ x h1, vx_rI x → P x h1 → P' x h1) : vx_CI d m args h P' :=
  vx_mono k (fun _ h1 ⟨x, hx, hr, hp⟩ => ⟨x, hx, hr, hq x h1 hr hp⟩)
theorem vx_CL_mono {m : Nat} {args : List Value} {P P' : Int → ve_H → Prop} (k : vx_CL d m args h P) (hq : ∀ x h1, vx_rL x → P x h1 → P' x h1) : vx_CL d m args h P' :=
  vx_mono k (fun _ h1 ⟨x, hx, hr, hp⟩ => ⟨x, hx, hr, hq x h1 hr hp⟩)
theorem vx_CV_mono {m : Nat} {args : List Value} {P P' : ve_H → Prop} (k : vx_CV d m args h P) (hq : ∀ h1, P h1 → P' h1) : vx_CV d m args h P' :=
  vx_mono k (fun _ h1 ⟨hx, hp⟩ => ⟨hx, hq h1 hp⟩)
theorem vx_enter {m ml : Nat} {args : List Value} (hm : ve_ml m = ml) (k : vx_W d m 0 (ve_en args ml) [] h Q) : vx_C d m args h Q := by
  unfold vx_C
  rw [hm]
  exact k
theorem vx_go {pc' : Nat} {st' : List Value} {h' : ve_H} (hs : ∀ rc : ve_Rc, ve_F rc d mi pc lv st h = rc d mi pc' lv' st' h') (k : vx_W d mi pc' lv' st' h' Q) : vx_W d mi pc lv st h Q := by
  obtain ⟨n, o, h2, hr, hq⟩ := k
  exact ⟨n + 1, o, h2, by rw [ve_run_S, hs]; exact hr, hq⟩
theorem vx_end {o : ve_O} {h' : ve_H} (hs : ∀ rc : ve_Rc, ve_F rc d mi pc lv st h = some (o, h')) (k : Q o h') : vx_W d mi pc lv st h Q :=
  ⟨1, o, h', by rw [ve_run_S, hs], k⟩
theorem vx_pu {i : Instr} {st' : List Value} (hf : vx_at mi pc i q) (hc : ve_ct i = 4) (hp : ve_pu (ve_ml mi) i lv st = some (lv', st')) (k : vx_W d mi q lv' st' h Q) : vx_W d mi pc lv st h Q := by
  refine vx_go (fun rc => ?_) k
  unfold ve_F
  rw [hf.1]
  dsimp only
  rw [hc]
  show (match ve_pu (ve_ml mi) i lv st with | some (lv', st') => rc d mi (pc + (q - pc)) lv' st' h | none => none) = _
  rw [hp]
  dsimp only
  rw [hf.2]
theorem vx_jp {i : Instr} {pc' : Nat} {st' : List Value} (hf : vx_at mi pc i q) (hc : ve_ct i = 3) (hp : ve_jp i pc st = some (pc', st')) (k : vx_W d mi pc' lv st' h Q) : vx_W d mi pc lv st h Q := by
  refine vx_go (fun rc => ?_) k
  unfold ve_F
  rw [hf.1]
  dsimp only
  rw [hc]
  show (match ve_jp i pc st with | some (pc', st') => rc d mi pc' lv st' h | none => none) = _
  rw [hp]
theorem vx_he {i : Instr} {st' : List Value} {h' : ve_H} (hf : vx_at mi pc i q) (hc : ve_ct i = 5) (hp : ve_he (ve_ow mi) (ve_ini mi) i st h = some (st', h')) (k : vx_W d mi q lv st' h' Q) : vx_W d mi pc lv st h Q := by
  refine vx_go (fun rc => ?_) k
  unfold ve_F
  rw [hf.1]
  dsimp only
  rw [hc]
  show (match ve_he (ve_ow mi) (ve_ini mi) i st h with | some (st', h') => rc d mi (pc + (q - pc)) lv st' h' | none => none) = _
  rw [hp]
  dsimp only
  rw [hf.2]
theorem vx_iconst {n : Int} (hf : vx_at mi pc (.iconst n) q) (k : vx_W d mi q lv (.int (vx_i n) :: st) h Q) : vx_W d mi pc lv st h Q := vx_pu hf rfl rfl k
theorem vx_bipush {n : Int} (hf : vx_at mi pc (.bipush n) q ∧ (Int8.ofInt n).toInt32 = Int32.ofInt n) (k : vx_W d mi q lv (.int (vx_i n) :: st) h Q) : vx_W d mi pc lv st h Q := by
  refine vx_pu hf.1 rfl (lv' := lv) (st' := .int (vx_i n) :: st) ?_ k
  show some (lv, Value.int (Int8.ofInt n).toInt32 :: st) = _
  rw [hf.2]
  rfl
theorem vx_sipush {n : Int} (hf : vx_at mi pc (.sipush n) q ∧ (Int16.ofInt n).toInt32 = Int32.ofInt n) (k : vx_W d mi q lv (.int (vx_i n) :: st) h Q) : vx_W d mi pc lv st h Q := by
  refine vx_pu hf.1 rfl (lv' := lv) (st' := .int (vx_i n) :: st) ?_ k
  show some (lv, Value.int (Int16.ofInt n).toInt32 :: st) = _
  rw [hf.2]
  rfl
theorem vx_lconst {n : Fin 2} {m : Int} (hf : vx_at mi pc (.lconst n) q ∧ Int64.ofNat n.val = Int64.ofInt m) (k : vx_W d mi q lv (.long (vx_l m) :: st) h Q) : vx_W d mi pc lv st h Q := by
  refine vx_pu hf.1 rfl (lv' := lv) (st' := .long (vx_l m) :: st) ?_ k
  show some (lv, Value.long (Int64.ofNat n.val) :: st) = _
  rw [hf.2]
  rfl
theorem vx_ldc {idx : Nat} {v : Int64} {m : Int} (hf : vx_at mi pc (.ldc2_w idx) q ∧ ve_as (ve_lo (ve_ow mi)) idx = some v ∧ v = Int64.ofInt m) (k : vx_W d mi q lv (.long (vx_l m) :: st) h Q) : vx_W d mi pc lv st h Q := by
  refine vx_he hf.1 rfl (st' := .long (vx_l m) :: st) (h' := h) ?_ k
  show ve_h_ldc2_w _ _ _ _ = _
  unfold ve_h_ldc2_w
  rw [hf.2.1]
  dsimp only
  rw [hf.2.2]
  rfl
theorem vx_iload_n {n : Fin 4} {x : Int32} (hf : vx_at mi pc (.iload_n n) q) (hl : lv.getD n.val none = some (.int x)) (k : vx_W d mi q lv (.int x :: st) h Q) : vx_W d mi pc lv st h Q := by
  refine vx_pu hf rfl (lv' := lv) (st' := .int x :: st) ?_ k
  unfold ve_pu
  dsimp only
  rw [hl]
theorem vx_istore_n {n : Fin 4} {x : Int32} (hf : vx_at mi pc (.istore_n n) q ∧ Nat.blt n.val (ve_ml mi) = true) (hl : ve_l1 lv n.val (.int x) = lv') (k : vx_W d mi q lv' st h Q) : vx_W d mi pc lv (.int x :: st) h Q := by
  refine vx_pu hf.1 rfl (lv' := lv') (st' := st) ?_ k
  unfold ve_pu
  dsimp only
  rw [hf.2, hl]
  rfl
theorem vx_iload {n : Nat} {x : Int32} (hf : vx_at mi pc (.iload n) q) (hl : lv.getD n none = some (.int x)) (k : vx_W d mi q lv (.int x :: st) h Q) : vx_W d mi pc lv st h Q := by
  refine vx_pu hf rfl (lv' := lv) (st' := .int x :: st) ?_ k
  unfold ve_pu
  dsimp only
  rw [hl]
theorem vx_istore {n : Nat} {x : Int32} (hf : vx_at mi pc (.istore n) q ∧ Nat.blt n (ve_ml mi) = true) (hl : ve_l1 lv n (.int x) = lv') (k : vx_W d mi q lv' st h Q) : vx_W d mi pc lv (.int x :: st) h Q := by
  refine vx_pu hf.1 rfl (lv' := lv') (st' := st) ?_ k
  unfold ve_pu
  dsimp only
  rw [hf.2, hl]
  rfl
theorem vx_lload_n {n : Fin 4} {x : Int64} (hf : vx_at mi pc (.lload_n n) q) (hl : lv.getD n.val none = some (.long x)) (k : vx_W d mi q lv (.long x :: st) h Q) : vx_W d mi pc lv st h Q := by
  refine vx_pu hf rfl (lv' := lv) (st' := .long x :: st) ?_ k
  unfold ve_pu
  dsimp only
  rw [hl]
theorem vx_lstore_n {n : Fin 4} {x : Int64} (hf : vx_at mi pc (.lstore_n n) q ∧ Nat.blt (n.val + 1) (ve_ml mi) = true) (hl : ve_l2 lv n.val (.long x) = lv') (k : vx_W d mi q lv' st h Q) : vx_W d mi pc lv (.long x :: st) h Q := by
  refine vx_pu hf.1 rfl (lv' := lv') (st' := st) ?_ k
  unfold ve_pu
  dsimp only
  rw [hf.2, hl]
  rfl
theorem vx_lload {n : Nat} {x : Int64} (hf : vx_at mi pc (.lload n) q) (hl : lv.getD n none = some (.long x)) (k : vx_W d mi q lv (.long x :: st) h Q) : vx_W d mi pc lv st h Q := by
  refine vx_pu hf rfl (lv' := lv) (st' := .long x :: st) ?_ k
  unfold ve_pu
  dsimp only
  rw [hl]
theorem vx_lstore {n : Nat} {x : Int64} (hf : vx_at mi pc (.lstore n) q ∧ Nat.blt (n + 1) (ve_ml mi) = true) (hl : ve_l2 lv n (.long x) = lv') (k : vx_W d mi q lv' st h Q) : vx_W d mi pc lv (.long x :: st) h Q := by
  refine vx_pu hf.1 rfl (lv' := lv') (st' := st) ?_ k
  unfold ve_pu
  dsimp only
  rw [hf.2, hl]
  rfl
theorem vx_aload_n {n : Fin 4} {x : Nat} (hf : vx_at mi pc (.aload_n n) q) (hl : lv.getD n.val none = some (.ref x)) (k : vx_W d mi q lv (.ref x :: st) h Q) : vx_W d mi pc lv st h Q := by
  refine vx_pu hf rfl (lv' := lv) (st' := .ref x :: st) ?_ k
  unfold ve_pu
  dsimp only
  rw [hl]
theorem vx_astore_n {n : Fin 4} {x : Nat} (hf : vx_at mi pc (.astore_n n) q ∧ Nat.blt n.val (ve_ml mi) = true) (hl : ve_l1 lv n.val (.ref x) = lv') (k : vx_W d mi q lv' st h Q) : vx_W d mi pc lv (.ref x :: st) h Q := by
  refine vx_pu hf.1 rfl (lv' := lv') (st' := st) ?_ k
  unfold ve_pu
  dsimp only
  rw [hf.2, hl]
  rfl
theorem vx_aload {n : Nat} {x : Nat} (hf : vx_at mi pc (.aload n) q) (hl : lv.getD n none = some (.ref x)) (k : vx_W d mi q lv (.ref x :: st) h Q) : vx_W d mi pc lv st h Q := by
  refine vx_pu hf rfl (lv' := lv) (st' := .ref x :: st) ?_ k
  unfold ve_pu
  dsimp only
  rw [hl]
theorem vx_astore {n : Nat} {x : Nat} (hf : vx_at mi pc (.astore n) q ∧ Nat.blt n (ve_ml mi) = true) (hl : ve_l1 lv n (.ref x) = lv') (k : vx_W d mi q lv' st h Q) : vx_W d mi pc lv (.ref x :: st) h Q := by
  refine vx_pu hf.1 rfl (lv' := lv') (st' := st) ?_ k
  unfold ve_pu
  dsimp only
  rw [hf.2, hl]
  rfl
theorem vx_iinc {n : Nat} {m x : Int} (hf : vx_at mi pc (.iinc n m) q ∧ Nat.blt n (ve_ml mi) = true) (hl : lv.getD n none = some (.int (vx_i x))) (hl2 : ve_l1 lv n (.int (vx_i (x + m))) = lv') (k : vx_W d mi q lv' st h Q) : vx_W d mi pc lv st h Q := by
  refine vx_pu hf.1 rfl (lv' := lv') (st' := st) ?_ k
  unfold ve_pu
  dsimp only
  rw [hl]
  dsimp only
  rw [hf.2, ← hl2]
  show some (ve_l1 lv n (.int (Int32.ofInt x + Int32.ofInt m)), st) = _
  rw [← Int32.ofInt_add]
  rfl
theorem vx_iadd {x y : Int} (hf : vx_at mi pc .iadd q) (k : vx_W d mi q lv (.int (vx_i (x + y)) :: st) h Q) : vx_W d mi pc lv (.int (vx_i y) :: .int (vx_i x) :: st) h Q := by
  refine vx_pu hf rfl (lv' := lv) (st' := .int (vx_i (x + y)) :: st) ?_ k
  show some (lv, Value.int (Int32.ofInt x + Int32.ofInt y) :: st) = _
  rw [← Int32.ofInt_add]
  rfl
theorem vx_isub {x y : Int} (hf : vx_at mi pc .isub q) (k : vx_W d mi q lv (.int (vx_i (x - y)) :: st) h Q) : vx_W d mi pc lv (.int (vx_i y) :: .int (vx_i x) :: st) h Q := by
  refine vx_pu hf rfl (lv' := lv) (st' := .int (vx_i (x - y)) :: st) ?_ k
  show some (lv, Value.int (Int32.ofInt x - Int32.ofInt y) :: st) = _
  rw [← Int32.ofInt_sub]
  rfl
theorem vx_imul {x y : Int} (hf : vx_at mi pc .imul q) (k : vx_W d mi q lv (.int (vx_i (x * y)) :: st) h Q) : vx_W d mi pc lv (.int (vx_i y) :: .int (vx_i x) :: st) h Q := by
  refine vx_pu hf rfl (lv' := lv) (st' := .int (vx_i (x * y)) :: st) ?_ k
  show some (lv, Value.int (Int32.ofInt x * Int32.ofInt y) :: st) = _
  rw [← Int32.ofInt_mul]
  rfl
theorem vx_ladd {x y : Int} (hf : vx_at mi pc .ladd q) (k : vx_W d mi q lv (.long (vx_l (x + y)) :: st) h Q) : vx_W d mi pc lv (.long (vx_l y) :: .long (vx_l x) :: st) h Q := by
  refine vx_pu hf rfl (lv' := lv) (st' := .long (vx_l (x + y)) :: st) ?_ k
  show some (lv, Value.long (Int64.ofInt x + Int64.ofInt y) :: st) = _
  rw [← Int64.ofInt_add]
  rfl
theorem vx_lsub {x y : Int} (hf : vx_at mi pc .lsub q) (k : vx_W d mi q lv (.long (vx_l (x - y)) :: st) h Q) : vx_W d mi pc lv (.long (vx_l y) :: .long (vx_l x) :: st) h Q := by
  refine vx_pu hf rfl (lv' := lv) (st' := .long (vx_l (x - y)) :: st) ?_ k
  show some (lv, Value.long (Int64.ofInt x - Int64.ofInt y) :: st) = _
  rw [← Int64.ofInt_sub]
  rfl
theorem vx_lmul {x y : Int} (hf : vx_at mi pc .lmul q) (k : vx_W d mi q lv (.long (vx_l (x * y)) :: st) h Q) : vx_W d mi pc lv (.long (vx_l y) :: .long (vx_l x) :: st) h Q := by
  refine vx_pu hf rfl (lv' := lv) (st' := .long (vx_l (x * y)) :: st) ?_ k
  show some (lv, Value.long (Int64.ofInt x * Int64.ofInt y) :: st) = _
  rw [← Int64.ofInt_mul]
  rfl
theorem vx_iand {x y : Int} (hf : vx_at mi pc .iand q) (k : vx_W d mi q lv (.int (vx_i (vx_and x y)) :: st) h Q) : vx_W d mi pc lv (.int (vx_i y) :: .int (vx_i x) :: st) h Q := by
  refine vx_pu hf rfl (lv' := lv) (st' := .int (vx_i (vx_and x y)) :: st) ?_ k
  unfold vx_and
  rw [vx_i_of]
  rfl
theorem vx_land1 {x y : Int} (hf : vx_at mi pc .land q) (k : vx_W d mi q lv (.long (vx_l (vx_land x y)) :: st) h Q) : vx_W d mi pc lv (.long (vx_l y) :: .long (vx_l x) :: st) h Q := by
  refine vx_pu hf rfl (lv' := lv) (st' := .long (vx_l (vx_land x y)) :: st) ?_ k
  unfold vx_land
  rw [vx_l_of]
  rfl
theorem vx_ior {x y : Int} (hf : vx_at mi pc .ior q) (k : vx_W d mi q lv (.int (vx_i (vx_or x y)) :: st) h Q) : vx_W d mi pc lv (.int (vx_i y) :: .int (vx_i x) :: st) h Q := by
  refine vx_pu hf rfl (lv' := lv) (st' := .int (vx_i (vx_or x y)) :: st) ?_ k
  unfold vx_or
  rw [vx_i_of]
  rfl
theorem vx_lor1 {x y : Int} (hf : vx_at mi pc .lor q) (k : vx_W d mi q lv (.long (vx_l (vx_lor x y)) :: st) h Q) : vx_W d mi pc lv (.long (vx_l y) :: .long (vx_l x) :: st) h Q := by
  refine vx_pu hf rfl (lv' := lv) (st' := .long (vx_l (vx_lor x y)) :: st) ?_ k
  unfold vx_lor
  rw [vx_l_of]
  rfl
theorem vx_ixor {x y : Int} (hf : vx_at mi pc .ixor q) (k : vx_W d mi q lv (.int (vx_i (vx_xor x y)) :: st) h Q) : vx_W d mi pc lv (.int (vx_i y) :: .int (vx_i x) :: st) h Q := by
  refine vx_pu hf rfl (lv' := lv) (st' := .int (vx_i (vx_xor x y)) :: st) ?_ k
  unfold vx_xor
  rw [vx_i_of]
  rfl
theorem vx_lxor1 {x y : Int} (hf : vx_at mi pc .lxor q) (k : vx_W d mi q lv (.long (vx_l (vx_lxor x y)) :: st) h Q) : vx_W d mi pc lv (.long (vx_l y) :: .long (vx_l x) :: st) h Q := by
  refine vx_pu hf rfl (lv' := lv) (st' := .long (vx_l (vx_lxor x y)) :: st) ?_ k
  unfold vx_lxor
  rw [vx_l_of]
  rfl
theorem vx_ishl {x y : Int} (hf : vx_at mi pc .ishl q) (k : vx_W d mi q lv (.int (vx_i (vx_shl x y)) :: st) h Q) : vx_W d mi pc lv (.int (vx_i y) :: .int (vx_i x) :: st) h Q := by
  refine vx_pu hf rfl (lv' := lv) (st' := .int (vx_i (vx_shl x y)) :: st) ?_ k
  unfold vx_shl
  rw [vx_i_of]
  rfl
theorem vx_i_ne0 {y : Int} (hy : vx_rI y) (h0 : y ≠ 0) : ¬ vx_i y = 0 := by
  intro h
  exact h0 ((vx_i_inj hy (by omega)).mp (h.trans vx_i0.symm))
theorem vx_idiv {x y : Int} (hf : vx_at mi pc .idiv q) (hy : vx_rI y ∧ y ≠ 0) (k : vx_W d mi q lv (.int (vx_i (vx_div x y)) :: st) h Q) : vx_W d mi pc lv (.int (vx_i y) :: .int (vx_i x) :: st) h Q := by
  refine vx_pu hf rfl (lv' := lv) (st' := .int (vx_i (vx_div x y)) :: st) ?_ k
  unfold ve_pu vx_div
  rw [vx_i_of]
  dsimp only
  rw [if_neg (vx_i_ne0 hy.1 hy.2)]
theorem vx_irem {x y : Int} (hf : vx_at mi pc .irem q) (hy : vx_rI y ∧ y ≠ 0) (k : vx_W d mi q lv (.int (vx_i (vx_rem x y)) :: st) h Q) : vx_W d mi pc lv (.int (vx_i y) :: .int (vx_i x) :: st) h Q := by
  refine vx_pu hf rfl (lv' := lv) (st' := .int (vx_i (vx_rem x y)) :: st) ?_ k
  unfold ve_pu vx_rem
  rw [vx_i_of]
  dsimp only
  rw [if_neg (vx_i_ne0 hy.1 hy.2)]
theorem vx_lshl1 {x y : Int} (hf : vx_at mi pc .lshl q) (k : vx_W d mi q lv (.long (vx_l (vx_lshl x y)) :: st) h Q) : vx_W d mi pc lv (.int (vx_i y) :: .long (vx_l x) :: st) h Q := by
  refine vx_pu hf rfl (lv' := lv) (st' := .long (vx_l (vx_lshl x y)) :: st) ?_ k
  unfold vx_lshl
  rw [vx_l_of]
  rfl
theorem vx_lshr1 {x y : Int} (hf : vx_at mi pc .lshr q) (k : vx_W d mi q lv (.long (vx_l (vx_lshr x y)) :: st) h Q) : vx_W d mi pc lv (.int (vx_i y) :: .long (vx_l x) :: st) h Q := by
  refine vx_pu hf rfl (lv' := lv) (st' := .long (vx_l (vx_lshr x y)) :: st) ?_ k
  unfold vx_lshr
  rw [vx_l_of]
  rfl
theorem vx_lushr1 {x y : Int} (hf : vx_at mi pc .lushr q) (k : vx_W d mi q lv (.long (vx_l (vx_lushr x y)) :: st) h Q) : vx_W d mi pc lv (.int (vx_i y) :: .long (vx_l x) :: st) h Q := by
  refine vx_pu hf rfl (lv' := lv) (st' := .long (vx_l (vx_lushr x y)) :: st) ?_ k
  unfold vx_lushr
  rw [vx_l_of]
  rfl
theorem vx_ineg {x : Int} (hf : vx_at mi pc .ineg q) (k : vx_W d mi q lv (.int (vx_i (-x)) :: st) h Q) : vx_W d mi pc lv (.int (vx_i x) :: st) h Q := by
  refine vx_pu hf rfl (lv' := lv) (st' := .int (vx_i (-x)) :: st) ?_ k
  show some (lv, Value.int (-Int32.ofInt x) :: st) = _
  rw [← Int32.ofInt_neg]
  rfl
theorem vx_lneg {x : Int} (hf : vx_at mi pc .lneg q) (k : vx_W d mi q lv (.long (vx_l (-x)) :: st) h Q) : vx_W d mi pc lv (.long (vx_l x) :: st) h Q := by
  refine vx_pu hf rfl (lv' := lv) (st' := .long (vx_l (-x)) :: st) ?_ k
  show some (lv, Value.long (-Int64.ofInt x) :: st) = _
  rw [← Int64.ofInt_neg]
  rfl
theorem vx_l2i {x : Int} (hf : vx_at mi pc .l2i q) (k : vx_W d mi q lv (.int (vx_i (x)) :: st) h Q) : vx_W d mi pc lv (.long (vx_l x) :: st) h Q := by
  refine vx_pu hf rfl (lv' := lv) (st' := .int (vx_i (x)) :: st) ?_ k
  show some (lv, Value.int (Int64.ofInt x).toInt32 :: st) = _
  rw [Int64.toInt32_ofInt]
  rfl
theorem vx_i_l {x : Int} (hx : vx_rI x) : (vx_i x).toInt64 = vx_l x := by
  apply Int64.toInt_inj.mp
  rw [Int32.toInt_toInt64, vx_i_toInt hx, vx_l_toInt (by omega)]
theorem vx_i_b {x : Int} (hx : -128 ≤ x ∧ x < 128) : (vx_i x).toInt8.toInt32 = vx_i x := by
  apply Int32.toInt_inj.mp
  rw [Int8.toInt_toInt32, Int32.toInt_toInt8, vx_i_toInt (by omega)]
  exact Int.bmod_eq_of_le (by omega) (by omega)
theorem vx_i2l {x : Int} (hf : vx_at mi pc .i2l q) (hx : vx_rI x) (k : vx_W d mi q lv (.long (vx_l (x)) :: st) h Q) : vx_W d mi pc lv (.int (vx_i x) :: st) h Q := by
  refine vx_pu hf rfl (lv' := lv) (st' := .long (vx_l (x)) :: st) ?_ k
  show some (lv, Value.long (vx_i x).toInt64 :: st) = _
  rw [vx_i_l hx]
theorem vx_i2b {x : Int} (hf : vx_at mi pc .i2b q) (hx : -128 ≤ x ∧ x < 128) (k : vx_W d mi q lv (.int (vx_i (x)) :: st) h Q) : vx_W d mi pc lv (.int (vx_i x) :: st) h Q := by
  refine vx_pu hf rfl (lv' := lv) (st' := .int (vx_i (x)) :: st) ?_ k
  show some (lv, Value.int (vx_i x).toInt8.toInt32 :: st) = _
  rw [vx_i_b hx]
theorem vx_dupI {x : Int32} (hf : vx_at mi pc .dup q) (k : vx_W d mi q lv (.int x :: .int x :: st) h Q) : vx_W d mi pc lv (.int x :: st) h Q := vx_pu hf rfl rfl k
theorem vx_dupR {x : Nat} (hf : vx_at mi pc .dup q) (k : vx_W d mi q lv (.ref x :: .ref x :: st) h Q) : vx_W d mi pc lv (.ref x :: st) h Q := vx_pu hf rfl rfl k
theorem vx_popI {x : Int32} (hf : vx_at mi pc .pop q) (k : vx_W d mi q lv st h Q) : vx_W d mi pc lv (.int x :: st) h Q := vx_pu hf rfl rfl k
theorem vx_popR {x : Nat} (hf : vx_at mi pc .pop q) (k : vx_W d mi q lv st h Q) : vx_W d mi pc lv (.ref x :: st) h Q := vx_pu hf rfl rfl k
theorem vx_dup2L {x : Int64} (hf : vx_at mi pc .dup2 q) (k : vx_W d mi q lv (.long x :: .long x :: st) h Q) : vx_W d mi pc lv (.long x :: st) h Q := vx_pu hf rfl rfl k
theorem vx_dup2I {x : Int32} {y : Nat} (hf : vx_at mi pc .dup2 q) (k : vx_W d mi q lv (.int x :: .ref y :: .int x :: .ref y :: st) h Q) : vx_W d mi pc lv (.int x :: .ref y :: st) h Q := vx_pu hf rfl rfl k
theorem vx_goto {off : Int} (hf : vx_at mi pc (.goto off) q ∧ ve_tg pc off = some t) (k : vx_W d mi t lv st h Q) : vx_W d mi pc lv st h Q := by
  refine vx_jp (pc' := t) (st' := st) hf.1 rfl ?_ k
  unfold ve_jp
  dsimp only
  rw [hf.2]
theorem vx_if_eq {x y : Int} (hx : vx_rI x) (hy : vx_rI y) {t f : Nat} : (x = y → ve_if .eq (vx_i x) (vx_i y) t f = t) ∧ (x ≠ y → ve_if .eq (vx_i x) (vx_i y) t f = f) := by
  constructor <;> intro hc <;> unfold ve_if <;> dsimp only
  · rw [if_pos ((vx_i_inj hx hy).mpr hc)]
  · rw [if_neg (fun h => hc ((vx_i_inj hx hy).mp h))]
theorem vx_icmp_eq {off x y : Int} (hf : vx_at mi pc (.if_icmp .eq off) q ∧ q = pc + 3 ∧ ve_tg pc off = some t) (hx : vx_rI x) (hy : vx_rI y) (k1 : x = y → vx_W d mi t lv st h Q) (k2 : x ≠ y → vx_W d mi q lv st h Q) : vx_W d mi pc lv (.int (vx_i y) :: .int (vx_i x) :: st) h Q := by
  obtain ⟨hf, hq, ht⟩ := hf
  by_cases hc : x = y
  · refine vx_jp (pc' := t) (st' := st) hf rfl ?_ (k1 hc)
    show (match ve_tg pc off with | some t => some (ve_if .eq (vx_i x) (vx_i y) t (pc + 3), st) | none => none) = _
    rw [ht]
    dsimp only
    rw [(vx_if_eq hx hy).1 hc]
  · have hc2 : x ≠ y := by omega
    refine vx_jp (pc' := q) (st' := st) hf rfl ?_ (k2 hc2)
    show (match ve_tg pc off with | some t => some (ve_if .eq (vx_i x) (vx_i y) t (pc + 3), st) | none => none) = _
    rw [ht, hq]
    dsimp only
    rw [(vx_if_eq hx hy).2 hc2]
theorem vx_if0_eq {off x : Int} (hf : vx_at mi pc (.ifCond .eq off) q ∧ q = pc + 3 ∧ ve_tg pc off = some t) (hx : vx_rI x) (k1 : x = 0 → vx_W d mi t lv st h Q) (k2 : x ≠ 0 → vx_W d mi q lv st h Q) : vx_W d mi pc lv (.int (vx_i x) :: st) h Q := by
  obtain ⟨hf, hq, ht⟩ := hf
  have hy : vx_rI 0 := by omega
  by_cases hc : x = 0
  · refine vx_jp (pc' := t) (st' := st) hf rfl ?_ (k1 hc)
    show (match ve_tg pc off with | some t => some (ve_if .eq (vx_i x) (vx_i 0) t (pc + 3), st) | none => none) = _
    rw [ht]
    dsimp only
    rw [(vx_if_eq hx hy).1 hc]
  · have hc2 : x ≠ 0 := by omega
    refine vx_jp (pc' := q) (st' := st) hf rfl ?_ (k2 hc2)
    show (match ve_tg pc off with | some t => some (ve_if .eq (vx_i x) (vx_i 0) t (pc + 3), st) | none => none) = _
    rw [ht, hq]
    dsimp only
    rw [(vx_if_eq hx hy).2 hc2]
theorem vx_if_ne {x y : Int} (hx : vx_rI x) (hy : vx_rI y) {t f : Nat} : (x ≠ y → ve_if .ne (vx_i x) (vx_i y) t f = t) ∧ (x = y → ve_if .ne (vx_i x) (vx_i y) t f = f) := by
  constructor <;> intro hc <;> unfold ve_if <;> dsimp only
  · rw [if_neg (fun h => hc ((vx_i_inj hx hy).mp h))]
  · rw [if_pos ((vx_i_inj hx hy).mpr hc)]
theorem vx_icmp_ne {off x y : Int} (hf : vx_at mi pc (.if_icmp .ne off) q ∧ q = pc + 3 ∧ ve_tg pc off = some t) (hx : vx_rI x) (hy : vx_rI y) (k1 : x ≠ y → vx_W d mi t lv st h Q) (k2 : x = y → vx_W d mi q lv st h Q) : vx_W d mi pc lv (.int (vx_i y) :: .int (vx_i x) :: st) h Q := by
  obtain ⟨hf, hq, ht⟩ := hf
  by_cases hc : x ≠ y
  · refine vx_jp (pc' := t) (st' := st) hf rfl ?_ (k1 hc)
    show (match ve_tg pc off with | some t => some (ve_if .ne (vx_i x) (vx_i y) t (pc + 3), st) | none => none) = _
    rw [ht]
    dsimp only
    rw [(vx_if_ne hx hy).1 hc]
  · have hc2 : x = y := by omega
    refine vx_jp (pc' := q) (st' := st) hf rfl ?_ (k2 hc2)
    show (match ve_tg pc off with | some t => some (ve_if .ne (vx_i x) (vx_i y) t (pc + 3), st) | none => none) = _
    rw [ht, hq]
    dsimp only
    rw [(vx_if_ne hx hy).2 hc2]
theorem vx_if0_ne {off x : Int} (hf : vx_at mi pc (.ifCond .ne off) q ∧ q = pc + 3 ∧ ve_tg pc off = some t) (hx : vx_rI x) (k1 : x ≠ 0 → vx_W d mi t lv st h Q) (k2 : x = 0 → vx_W d mi q lv st h Q) : vx_W d mi pc lv (.int (vx_i x) :: st) h Q := by
  obtain ⟨hf, hq, ht⟩ := hf
  have hy : vx_rI 0 := by omega
  by_cases hc : x ≠ 0
  · refine vx_jp (pc' := t) (st' := st) hf rfl ?_ (k1 hc)
    show (match ve_tg pc off with | some t => some (ve_if .ne (vx_i x) (vx_i 0) t (pc + 3), st) | none => none) = _
    rw [ht]
    dsimp only
    rw [(vx_if_ne hx hy).1 hc]
  · have hc2 : x = 0 := by omega
    refine vx_jp (pc' := q) (st' := st) hf rfl ?_ (k2 hc2)
    show (match ve_tg pc off with | some t => some (ve_if .ne (vx_i x) (vx_i 0) t (pc + 3), st) | none => none) = _
    rw [ht, hq]
    dsimp only
    rw [(vx_if_ne hx hy).2 hc2]
theorem vx_if_lt {x y : Int} (hx : vx_rI x) (hy : vx_rI y) {t f : Nat} : (x < y → ve_if .lt (vx_i x) (vx_i y) t f = t) ∧ (y ≤ x → ve_if .lt (vx_i x) (vx_i y) t f = f) := by
  constructor <;> intro hc <;> unfold ve_if <;> dsimp only
  · rw [if_pos ((vx_i_lt hx hy).mpr hc)]
  · rw [if_neg (fun h => absurd ((vx_i_lt hx hy).mp h) (by omega))]
theorem vx_icmp_lt {off x y : Int} (hf : vx_at mi pc (.if_icmp .lt off) q ∧ q = pc + 3 ∧ ve_tg pc off = some t) (hx : vx_rI x) (hy : vx_rI y) (k1 : x < y → vx_W d mi t lv st h Q) (k2 : y ≤ x → vx_W d mi q lv st h Q) : vx_W d mi pc lv (.int (vx_i y) :: .int (vx_i x) :: st) h Q := by
  obtain ⟨hf, hq, ht⟩ := hf
  by_cases hc : x < y
  · refine vx_jp (pc' := t) (st' := st) hf rfl ?_ (k1 hc)
    show (match ve_tg pc off with | some t => some (ve_if .lt (vx_i x) (vx_i y) t (pc + 3), st) | none => none) = _
    rw [ht]
    dsimp only
    rw [(vx_if_lt hx hy).1 hc]
  · have hc2 : y ≤ x := by omega
    refine vx_jp (pc' := q) (st' := st) hf rfl ?_ (k2 hc2)
    show (match ve_tg pc off with | some t => some (ve_if .lt (vx_i x) (vx_i y) t (pc + 3), st) | none => none) = _
    rw [ht, hq]
    dsimp only
    rw [(vx_if_lt hx hy).2 hc2]
theorem vx_if0_lt {off x : Int} (hf : vx_at mi pc (.ifCond .lt off) q ∧ q = pc + 3 ∧ ve_tg pc off = some t) (hx : vx_rI x) (k1 : x < 0 → vx_W d mi t lv st h Q) (k2 : 0 ≤ x → vx_W d mi q lv st h Q) : vx_W d mi pc lv (.int (vx_i x) :: st) h Q := by
  obtain ⟨hf, hq, ht⟩ := hf
  have hy : vx_rI 0 := by omega
  by_cases hc : x < 0
  · refine vx_jp (pc' := t) (st' := st) hf rfl ?_ (k1 hc)
    show (match ve_tg pc off with | some t => some (ve_if .lt (vx_i x) (vx_i 0) t (pc + 3), st) | none => none) = _
    rw [ht]
    dsimp only
    rw [(vx_if_lt hx hy).1 hc]
  · have hc2 : 0 ≤ x := by omega
    refine vx_jp (pc' := q) (st' := st) hf rfl ?_ (k2 hc2)
    show (match ve_tg pc off with | some t => some (ve_if .lt (vx_i x) (vx_i 0) t (pc + 3), st) | none => none) = _
    rw [ht, hq]
    dsimp only
    rw [(vx_if_lt hx hy).2 hc2]
theorem vx_if_ge {x y : Int} (hx : vx_rI x) (hy : vx_rI y) {t f : Nat} : (y ≤ x → ve_if .ge (vx_i x) (vx_i y) t f = t) ∧ (x < y → ve_if .ge (vx_i x) (vx_i y) t f = f) := by
  constructor <;> intro hc <;> unfold ve_if <;> dsimp only
  · rw [if_pos ((vx_i_le hy hx).mpr hc)]
  · rw [if_neg (fun h => absurd ((vx_i_le hy hx).mp h) (by omega))]
theorem vx_icmp_ge {off x y : Int} (hf : vx_at mi pc (.if_icmp .ge off) q ∧ q = pc + 3 ∧ ve_tg pc off = some t) (hx : vx_rI x) (hy : vx_rI y) (k1 : y ≤ x → vx_W d mi t lv st h Q) (k2 : x < y → vx_W d mi q lv st h Q) : vx_W d mi pc lv (.int (vx_i y) :: .int (vx_i x) :: st) h Q := by
  obtain ⟨hf, hq, ht⟩ := hf
  by_cases hc : y ≤ x
  · refine vx_jp (pc' := t) (st' := st) hf rfl ?_ (k1 hc)
    show (match ve_tg pc off with | some t => some (ve_if .ge (vx_i x) (vx_i y) t (pc + 3), st) | none => none) = _
    rw [ht]
    dsimp only
    rw [(vx_if_ge hx hy).1 hc]
  · have hc2 : x < y := by omega
    refine vx_jp (pc' := q) (st' := st) hf rfl ?_ (k2 hc2)
    show (match ve_tg pc off with | some t => some (ve_if .ge (vx_i x) (vx_i y) t (pc + 3), st) | none => none) = _
    rw [ht, hq]
    dsimp only
    rw [(vx_if_ge hx hy).2 hc2]
theorem vx_if0_ge {off x : Int} (hf : vx_at mi pc (.ifCond .ge off) q ∧ q = pc + 3 ∧ ve_tg pc off = some t) (hx : vx_rI x) (k1 : 0 ≤ x → vx_W d mi t lv st h Q) (k2 : x < 0 → vx_W d mi q lv st h Q) : vx_W d mi pc lv (.int (vx_i x) :: st) h Q := by
  obtain ⟨hf, hq, ht⟩ := hf
  have hy : vx_rI 0 := by omega
  by_cases hc : 0 ≤ x
  · refine vx_jp (pc' := t) (st' := st) hf rfl ?_ (k1 hc)
    show (match ve_tg pc off with | some t => some (ve_if .ge (vx_i x) (vx_i 0) t (pc + 3), st) | none => none) = _
    rw [ht]
    dsimp only
    rw [(vx_if_ge hx hy).1 hc]
  · have hc2 : x < 0 := by omega
    refine vx_jp (pc' := q) (st' := st) hf rfl ?_ (k2 hc2)
    show (match ve_tg pc off with | some t => some (ve_if .ge (vx_i x) (vx_i 0) t (pc + 3), st) | none => none) = _
    rw [ht, hq]
    dsimp only
    rw [(vx_if_ge hx hy).2 hc2]
theorem vx_if_gt {x y : Int} (hx : vx_rI x) (hy : vx_rI y) {t f : Nat} : (y < x → ve_if .gt (vx_i x) (vx_i y) t f = t) ∧ (x ≤ y → ve_if .gt (vx_i x) (vx_i y) t f = f) := by
  constructor <;> intro hc <;> unfold ve_if <;> dsimp only
  · rw [if_pos ((vx_i_lt hy hx).mpr hc)]
  · rw [if_neg (fun h => absurd ((vx_i_lt hy hx).mp h) (by omega))]
theorem vx_icmp_gt {off x y : Int} (hf : vx_at mi pc (.if_icmp .gt off) q ∧ q = pc + 3 ∧ ve_tg pc off = some t) (hx : vx_rI x) (hy : vx_rI y) (k1 : y < x → vx_W d mi t lv st h Q) (k2 : x ≤ y → vx_W d mi q lv st h Q) : vx_W d mi pc lv (.int (vx_i y) :: .int (vx_i x) :: st) h Q := by
  obtain ⟨hf, hq, ht⟩ := hf
  by_cases hc : y < x
  · refine vx_jp (pc' := t) (st' := st) hf rfl ?_ (k1 hc)
    show (match ve_tg pc off with | some t => some (ve_if .gt (vx_i x) (vx_i y) t (pc + 3), st) | none => none) = _
    rw [ht]
    dsimp only
    rw [(vx_if_gt hx hy).1 hc]
  · have hc2 : x ≤ y := by omega
    refine vx_jp (pc' := q) (st' := st) hf rfl ?_ (k2 hc2)
    show (match ve_tg pc off with | some t => some (ve_if .gt (vx_i x) (vx_i y) t (pc + 3), st) | none => none) = _
    rw [ht, hq]
    dsimp only
    rw [(vx_if_gt hx hy).2 hc2]
theorem vx_if0_gt {off x : Int} (hf : vx_at mi pc (.ifCond .gt off) q ∧ q = pc + 3 ∧ ve_tg pc off = some t) (hx : vx_rI x) (k1 : 0 < x → vx_W d mi t lv st h Q) (k2 : x ≤ 0 → vx_W d mi q lv st h Q) : vx_W d mi pc lv (.int (vx_i x) :: st) h Q := by
  obtain ⟨hf, hq, ht⟩ := hf
  have hy : vx_rI 0 := by omega
  by_cases hc : 0 < x
  · refine vx_jp (pc' := t) (st' := st) hf rfl ?_ (k1 hc)
    show (match ve_tg pc off with | some t => some (ve_if .gt (vx_i x) (vx_i 0) t (pc + 3), st) | none => none) = _
    rw [ht]
    dsimp only
    rw [(vx_if_gt hx hy).1 hc]
  · have hc2 : x ≤ 0 := by omega
    refine vx_jp (pc' := q) (st' := st) hf rfl ?_ (k2 hc2)
    show (match ve_tg pc off with | some t => some (ve_if .gt (vx_i x) (vx_i 0) t (pc + 3), st) | none => none) = _
    rw [ht, hq]
    dsimp only
    rw [(vx_if_gt hx hy).2 hc2]
theorem vx_if_le {x y : Int} (hx : vx_rI x) (hy : vx_rI y) {t f : Nat} : (x ≤ y → ve_if .le (vx_i x) (vx_i y) t f = t) ∧ (y < x → ve_if .le (vx_i x) (vx_i y) t f = f) := by
  constructor <;> intro hc <;> unfold ve_if <;> dsimp only
  · rw [if_pos ((vx_i_le hx hy).mpr hc)]
  · rw [if_neg (fun h => absurd ((vx_i_le hx hy).mp h) (by omega))]
theorem vx_icmp_le {off x y : Int} (hf : vx_at mi pc (.if_icmp .le off) q ∧ q = pc + 3 ∧ ve_tg pc off = some t) (hx : vx_rI x) (hy : vx_rI y) (k1 : x ≤ y → vx_W d mi t lv st h Q) (k2 : y < x → vx_W d mi q lv st h Q) : vx_W d mi pc lv (.int (vx_i y) :: .int (vx_i x) :: st) h Q := by
  obtain ⟨hf, hq, ht⟩ := hf
  by_cases hc : x ≤ y
  · refine vx_jp (pc' := t) (st' := st) hf rfl ?_ (k1 hc)
    show (match ve_tg pc off with | some t => some (ve_if .le (vx_i x) (vx_i y) t (pc + 3), st) | none => none) = _
    rw [ht]
    dsimp only
    rw [(vx_if_le hx hy).1 hc]
  · have hc2 : y < x := by omega
    refine vx_jp (pc' := q) (st' := st) hf rfl ?_ (k2 hc2)
    show (match ve_tg pc off with | some t => some (ve_if .le (vx_i x) (vx_i y) t (pc + 3), st) | none => none) = _
    rw [ht, hq]
    dsimp only
    rw [(vx_if_le hx hy).2 hc2]
theorem vx_if0_le {off x : Int} (hf : vx_at mi pc (.ifCond .le off) q ∧ q = pc + 3 ∧ ve_tg pc off = some t) (hx : vx_rI x) (k1 : x ≤ 0 → vx_W d mi t lv st h Q) (k2 : 0 < x → vx_W d mi q lv st h Q) : vx_W d mi pc lv (.int (vx_i x) :: st) h Q := by
  obtain ⟨hf, hq, ht⟩ := hf
  have hy : vx_rI 0 := by omega
  by_cases hc : x ≤ 0
  · refine vx_jp (pc' := t) (st' := st) hf rfl ?_ (k1 hc)
    show (match ve_tg pc off with | some t => some (ve_if .le (vx_i x) (vx_i 0) t (pc + 3), st) | none => none) = _
    rw [ht]
    dsimp only
    rw [(vx_if_le hx hy).1 hc]
  · have hc2 : 0 < x := by omega
    refine vx_jp (pc' := q) (st' := st) hf rfl ?_ (k2 hc2)
    show (match ve_tg pc off with | some t => some (ve_if .le (vx_i x) (vx_i 0) t (pc + 3), st) | none => none) = _
    rw [ht, hq]
    dsimp only
    rw [(vx_if_le hx hy).2 hc2]
def vx_cm (x y : Int) : Int := if y < x then 1 else if x = y then 0 else -1
theorem vx_cm_eq {x y : Int} (hx : vx_rL x) (hy : vx_rL y) : lg_cmp (vx_l x) (vx_l y) = vx_i (vx_cm x y) := by
  unfold lg_cmp vx_cm
  by_cases h1 : y < x
  · rw [if_pos (show vx_l x > vx_l y from (vx_l_lt hy hx).mpr h1), if_pos h1]
    rfl
  · rw [if_neg (show ¬ vx_l x > vx_l y from fun h => h1 ((vx_l_lt hy hx).mp h)), if_neg h1]
    by_cases h2 : x = y
    · rw [if_pos ((vx_l_inj hx hy).mpr h2), if_pos h2]; rfl
    · rw [if_neg (fun h => h2 ((vx_l_inj hx hy).mp h)), if_neg h2]; rfl
theorem vx_lc_eq {off x y : Int} {p : Nat} (hf : vx_at mi pc .lcmp p ∧ vx_at mi p (.ifCond .eq off) q ∧ q = p + 3 ∧ ve_tg p off = some t) (hx : vx_rL x) (hy : vx_rL y) (k1 : x = y → vx_W d mi t lv st h Q) (k2 : x ≠ y → vx_W d mi q lv st h Q) : vx_W d mi pc lv (.long (vx_l y) :: .long (vx_l x) :: st) h Q := by
  refine vx_pu (lv' := lv) (st' := .int (vx_i (vx_cm x y)) :: st) hf.1 rfl ?_ ?_
  · show some (lv, Value.int (lg_cmp (vx_l x) (vx_l y)) :: st) = _
    rw [vx_cm_eq hx hy]
  · refine vx_if0_eq hf.2 ?_ (fun hc => k1 ?_) (fun hc => k2 ?_)
    · unfold vx_cm; split; omega; split <;> omega
    · unfold vx_cm at hc; split at hc; omega; split at hc <;> omega
    · unfold vx_cm at hc; split at hc; omega; split at hc <;> omega
theorem vx_lc_ne {off x y : Int} {p : Nat} (hf : vx_at mi pc .lcmp p ∧ vx_at mi p (.ifCond .ne off) q ∧ q = p + 3 ∧ ve_tg p off = some t) (hx : vx_rL x) (hy : vx_rL y) (k1 : x ≠ y → vx_W d mi t lv st h Q) (k2 : x = y → vx_W d mi q lv st h Q) : vx_W d mi pc lv (.long (vx_l y) :: .long (vx_l x) :: st) h Q := by
  refine vx_pu (lv' := lv) (st' := .int (vx_i (vx_cm x y)) :: st) hf.1 rfl ?_ ?_
  · show some (lv, Value.int (lg_cmp (vx_l x) (vx_l y)) :: st) = _
    rw [vx_cm_eq hx hy]
  · refine vx_if0_ne hf.2 ?_ (fun hc => k1 ?_) (fun hc => k2 ?_)
    · unfold vx_cm; split; omega; split <;> omega
    · unfold vx_cm at hc; split at hc; omega; split at hc <;> omega
    · unfold vx_cm at hc; split at hc; omega; split at hc <;> omega
theorem vx_lc_lt {off x y : Int} {p : Nat} (hf : vx_at mi pc .lcmp p ∧ vx_at mi p (.ifCond .lt off) q ∧ q = p + 3 ∧ ve_tg p off = some t) (hx : vx_rL x) (hy : vx_rL y) (k1 : x < y → vx_W d mi t lv st h Q) (k2 : y ≤ x → vx_W d mi q lv st h Q) : vx_W d mi pc lv (.long (vx_l y) :: .long (vx_l x) :: st) h Q := by
  refine vx_pu (lv' := lv) (st' := .int (vx_i (vx_cm x y)) :: st) hf.1 rfl ?_ ?_
  · show some (lv, Value.int (lg_cmp (vx_l x) (vx_l y)) :: st) = _
    rw [vx_cm_eq hx hy]
  · refine vx_if0_lt hf.2 ?_ (fun hc => k1 ?_) (fun hc => k2 ?_)
    · unfold vx_cm; split; omega; split <;> omega
    · unfold vx_cm at hc; split at hc; omega; split at hc <;> omega
    · unfold vx_cm at hc; split at hc; omega; split at hc <;> omega
theorem vx_lc_ge {off x y : Int} {p : Nat} (hf : vx_at mi pc .lcmp p ∧ vx_at mi p (.ifCond .ge off) q ∧ q = p + 3 ∧ ve_tg p off = some t) (hx : vx_rL x) (hy : vx_rL y) (k1 : y ≤ x → vx_W d mi t lv st h Q) (k2 : x < y → vx_W d mi q lv st h Q) : vx_W d mi pc lv (.long (vx_l y) :: .long (vx_l x) :: st) h Q := by
  refine vx_pu (lv' := lv) (st' := .int (vx_i (vx_cm x y)) :: st) hf.1 rfl ?_ ?_
  · show some (lv, Value.int (lg_cmp (vx_l x) (vx_l y)) :: st) = _
    rw [vx_cm_eq hx hy]
  · refine vx_if0_ge hf.2 ?_ (fun hc => k1 ?_) (fun hc => k2 ?_)
    · unfold vx_cm; split; omega; split <;> omega
    · unfold vx_cm at hc; split at hc; omega; split at hc <;> omega
    · unfold vx_cm at hc; split at hc; omega; split at hc <;> omega
theorem vx_lc_gt {off x y : Int} {p : Nat} (hf : vx_at mi pc .lcmp p ∧ vx_at mi p (.ifCond .gt off) q ∧ q = p + 3 ∧ ve_tg p off = some t) (hx : vx_rL x) (hy : vx_rL y) (k1 : y < x → vx_W d mi t lv st h Q) (k2 : x ≤ y → vx_W d mi q lv st h Q) : vx_W d mi pc lv (.long (vx_l y) :: .long (vx_l x) :: st) h Q := by
  refine vx_pu (lv' := lv) (st' := .int (vx_i (vx_cm x y)) :: st) hf.1 rfl ?_ ?_
  · show some (lv, Value.int (lg_cmp (vx_l x) (vx_l y)) :: st) = _
    rw [vx_cm_eq hx hy]
  · refine vx_if0_gt hf.2 ?_ (fun hc => k1 ?_) (fun hc => k2 ?_)
    · unfold vx_cm; split; omega; split <;> omega
    · unfold vx_cm at hc; split at hc; omega; split at hc <;> omega
    · unfold vx_cm at hc; split at hc; omega; split at hc <;> omega
theorem vx_lc_le {off x y : Int} {p : Nat} (hf : vx_at mi pc .lcmp p ∧ vx_at mi p (.ifCond .le off) q ∧ q = p + 3 ∧ ve_tg p off = some t) (hx : vx_rL x) (hy : vx_rL y) (k1 : x ≤ y → vx_W d mi t lv st h Q) (k2 : y < x → vx_W d mi q lv st h Q) : vx_W d mi pc lv (.long (vx_l y) :: .long (vx_l x) :: st) h Q := by
  refine vx_pu (lv' := lv) (st' := .int (vx_i (vx_cm x y)) :: st) hf.1 rfl ?_ ?_
  · show some (lv, Value.int (lg_cmp (vx_l x) (vx_l y)) :: st) = _
    rw [vx_cm_eq hx hy]
  · refine vx_if0_le hf.2 ?_ (fun hc => k1 ?_) (fun hc => k2 ?_)
    · unfold vx_cm; split; omega; split <;> omega
    · unfold vx_cm at hc; split at hc; omega; split at hc <;> omega
    · unfold vx_cm at hc; split at hc; omega; split at hc <;> omega
def vx_swc (x : Int) (F : Nat → Prop) : List (Int × Nat) → Prop
  | [] => True
  | p :: r => (x = p.1 → F p.2) ∧ vx_swc x F r
def vx_swn (x : Int) : List (Int × Nat) → Prop
  | [] => True
  | p :: r => x ≠ p.1 ∧ vx_swn x r
def vx_swl (x : Int) (td : Nat) : List (Int × Nat) → Nat
  | [] => td
  | p :: r => if x = p.1 then p.2 else vx_swl x td r
theorem vx_swl_F {x : Int} {td : Nat} {F : Nat → Prop} : ∀ {l : List (Int × Nat)}, vx_swc x F l → (vx_swn x l → F td) → F (vx_swl x td l)
  | [], _, hd => hd trivial
  | p :: r, hc, hd => by
    unfold vx_swl
    by_cases h : x = p.1
    · rw [if_pos h]; exact hc.1 h
    · rw [if_neg h]; exact vx_swl_F hc.2 (fun hn => hd ⟨h, hn⟩)
def vx_tsl (pc : Nat) (td : Nat) (tl : List (Int × Nat)) : Int → List Int → Bool
  | _, [] => true
  | lo, off :: r => decide (ve_tg pc off = some (vx_swl lo td tl)) && vx_tsl pc td tl (lo + 1) r
theorem vx_tsl_ok {pc td : Nat} {tl : List (Int × Nat)} : ∀ {l : List Int} {lo : Int} {j : Nat} {off : Int}, vx_tsl pc td tl lo l = true → l[j]? = some off → ve_tg pc off = some (vx_swl (lo + j) td tl)
  | [], _, j, off, _, hj => by simp at hj
  | o :: r, lo, 0, off, h, hj => by
    unfold vx_tsl at h
    rw [Bool.and_eq_true] at h
    have h1 := of_decide_eq_true h.1
    simp at hj
    rw [← hj, h1]
    simp
  | o :: r, lo, j + 1, off, h, hj => by
    unfold vx_tsl at h
    rw [Bool.and_eq_true] at h
    have hj2 : r[j]? = some off := by simpa using hj
    have := vx_tsl_ok h.2 hj2
    rw [this]
    congr 2
    omega
theorem vx_tsw {x dd lo hi : Int} {offs : Array Int} {tl : List (Int × Nat)} {td : Nat} (hf : vx_at mi pc (.tableswitch dd lo hi offs) q ∧ ve_tg pc dd = some td ∧ vx_tsl pc td tl lo offs.toList = true ∧ (offs.toList.length : Int) = hi - lo + 1 ∧ tl.all (fun p => decide (lo ≤ p.1 ∧ p.1 ≤ hi)) = true) (hx : vx_rI x) (k1 : vx_swc x (fun t => vx_W d mi t lv st h Q) tl) (k2 : vx_swn x tl → vx_W d mi td lv st h Q) : vx_W d mi pc lv (.int (vx_i x) :: st) h Q := by
  obtain ⟨hf, htd, hts, hlen, hall⟩ := hf
  refine vx_jp (pc' := vx_swl x td tl) (st' := st) hf rfl ?_ (vx_swl_F (F := fun t => vx_W d mi t lv st h Q) k1 k2)
  show (if (vx_i x).toInt < lo ∨ hi < (vx_i x).toInt then (match ve_tg pc dd with | some t => some (t, st) | none => none)
      else match offs[((vx_i x).toInt - lo).toNat]? with
        | some off => (match ve_tg pc off with | some t => some (t, st) | none => none)
        | none => none) = _
  rw [vx_i_toInt hx]
  by_cases hr : x < lo ∨ hi < x
  · rw [if_pos hr, htd]
    dsimp only
    have hnone : vx_swl x td tl = td := by
      clear k1 k2 hts
      induction tl with
      | nil => rfl
      | cons p r ih =>
        rw [List.all_cons, Bool.and_eq_true] at hall
        have hp := of_decide_eq_true hall.1
        unfold vx_swl
        rw [if_neg (by omega)]
        exact ih hall.2
    rw [hnone]
  · rw [if_neg hr]
    have hj : (x - lo).toNat < offs.toList.length := by omega
    have h1 : offs[(x - lo).toNat]? = some (offs.toList[(x - lo).toNat]'hj) := by
      rw [← Array.getElem?_toList]
      exact List.getElem?_eq_getElem hj
    rw [h1]
    dsimp only
    have h2 := vx_tsl_ok hts (List.getElem?_eq_getElem hj)
    rw [h2]
    dsimp only
    have h3 : lo + ((x - lo).toNat : Int) = x := by omega
    rw [h3]
def vx_lsl (pc : Nat) : List (Int × Int) → List (Int × Nat) → Bool
  | [], [] => true
  | p :: r, p' :: r' => decide (p.1 = p'.1) && (decide (ve_tg pc p.2 = some p'.2) && vx_lsl pc r r')
  | _, _ => false
theorem vx_lsl_ok {pc td : Nat} {dd x : Int} (htd : ve_tg pc dd = some td) : ∀ {l : List (Int × Int)} {tl : List (Int × Nat)}, vx_lsl pc l tl = true → ve_tg pc (Op.lookupswitch.offset l dd x) = some (vx_swl x td tl)
  | [], [], _ => htd
  | [], _ :: _, h => by cases h
  | _ :: _, [], h => by cases h
  | p :: r, p' :: r', h => by
    unfold vx_lsl at h
    rw [Bool.and_eq_true, Bool.and_eq_true] at h
    have h1 := of_decide_eq_true h.1
    have h2 := of_decide_eq_true h.2.1
    have h3 := vx_lsl_ok (x := x) htd h.2.2
    obtain ⟨a, o⟩ := p
    rw [Op.lookupswitch.offset_cons]
    unfold vx_swl
    dsimp only at h1 h2
    rw [← h1]
    by_cases hc : a = x
    · rw [if_pos hc, if_pos hc.symm, h2]
    · rw [if_neg hc, if_neg (fun h => hc h.symm), h3]
theorem vx_lsw {x dd : Int} {ps : Array (Int × Int)} {tl : List (Int × Nat)} {td : Nat} (hf : vx_at mi pc (.lookupswitch dd ps) q ∧ ve_tg pc dd = some td ∧ vx_lsl pc ps.toList tl = true ∧ (ps.toList.zip (ps.toList.drop 1)).all (fun (a, next) => a.1 < next.1) = true) (hx : vx_rI x) (k1 : vx_swc x (fun t => vx_W d mi t lv st h Q) tl) (k2 : vx_swn x tl → vx_W d mi td lv st h Q) : vx_W d mi pc lv (.int (vx_i x) :: st) h Q := by
  obtain ⟨hf, htd, hts, hall⟩ := hf
  refine vx_jp (pc' := vx_swl x td tl) (st' := st) hf rfl ?_ (vx_swl_F (F := fun t => vx_W d mi t lv st h Q) k1 k2)
  show (bif (ps.toList.zip (ps.toList.drop 1)).all (fun (a, next) => a.1 < next.1) then
        (match ve_tg pc (Op.lookupswitch.offset ps.toList dd (vx_i x).toInt) with | some t => some (t, st) | none => none)
      else none) = _
  rw [hall, vx_i_toInt hx, vx_lsl_ok htd hts]
  rfl
end
