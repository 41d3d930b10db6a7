/-! Rules: the heap's instructions, calls, returns (printed by wip/whole/gen_rules2.py) -/
theorem vx_nat {i : Int} (h : 0 ≤ i ∧ i < 2147483648) : (vx_i i).toNatClampNeg = i.toNat := by
  show (vx_i i).toInt.toNat = i.toNat
  rw [vx_i_toInt (by omega)]
theorem vx_inb {z : Nat} {i : Int} (h : 0 ≤ i ∧ i < (z : Int) ∧ i < 2147483648) : ¬ (vx_i i < 0 ∨ z ≤ (vx_i i).toNatClampNeg) := by
  rw [vx_nat (by omega)]
  intro hc
  rcases hc with hc | hc
  · have := (vx_i_lt (x := i) (y := 0) (by omega) (by omega)).mp hc
    omega
  · omega
theorem vx_bt {a b : Nat} (h : a = b) : a.beq b = true := ve_beq_t h
section
variable {d mi pc q : Nat} {lv : ve_V} {st : List Value} {h : ve_H} {Q : ve_O → ve_H → Prop}
theorem vx_getI {idx kd s a : Nat} {fin : Bool} (hf : vx_at mi pc (.getfield idx) q ∧ ve_as (ve_fo (ve_ow mi)) idx = some (kd, s, fin) ∧ ((ve_tc kd).getD s 9 = 0)) (hk : ve_k h a = kd) (k : vx_W d mi q lv (.int (vx_i (vx_J h a s)) :: st) h Q) : vx_W d mi pc lv (.ref a :: st) h Q := by
  obtain ⟨hf, hs, ht⟩ := hf
  refine vx_he hf rfl (st' := .int (vx_i (vx_J h a s)) :: st) (h' := h) ?_ k
  unfold ve_he
  dsimp only
  unfold ve_h_getfield vx_J
  rw [vx_i_of]
  dsimp only
  rw [hs]
  dsimp only
  rw [vx_bt hk, ht]
  rfl
theorem vx_getZ {idx kd s a : Nat} {fin : Bool} (hf : vx_at mi pc (.getfield idx) q ∧ ve_as (ve_fo (ve_ow mi)) idx = some (kd, s, fin) ∧ ((ve_tc kd).getD s 9 = 3)) (hk : ve_k h a = kd) (k : vx_W d mi q lv (.int (vx_i (vx_J h a s)) :: st) h Q) : vx_W d mi pc lv (.ref a :: st) h Q := by
  obtain ⟨hf, hs, ht⟩ := hf
  refine vx_he hf rfl (st' := .int (vx_i (vx_J h a s)) :: st) (h' := h) ?_ k
  unfold ve_he
  dsimp only
  unfold ve_h_getfield vx_J
  rw [vx_i_of]
  dsimp only
  rw [hs]
  dsimp only
  rw [vx_bt hk, ht]
  rfl
theorem vx_getL {idx kd s a : Nat} {fin : Bool} (hf : vx_at mi pc (.getfield idx) q ∧ ve_as (ve_fo (ve_ow mi)) idx = some (kd, s, fin) ∧ ((ve_tc kd).getD s 9 = 1)) (hk : ve_k h a = kd) (k : vx_W d mi q lv (.long (vx_l (vx_K h a s)) :: st) h Q) : vx_W d mi pc lv (.ref a :: st) h Q := by
  obtain ⟨hf, hs, ht⟩ := hf
  refine vx_he hf rfl (st' := .long (vx_l (vx_K h a s)) :: st) (h' := h) ?_ k
  unfold ve_he
  dsimp only
  unfold ve_h_getfield vx_K
  rw [vx_l_of]
  dsimp only
  rw [hs]
  dsimp only
  rw [vx_bt hk, ht]
  rfl
theorem vx_getR {idx kd s a b : Nat} {fin : Bool} (hf : vx_at mi pc (.getfield idx) q ∧ ve_as (ve_fo (ve_ow mi)) idx = some (kd, s, fin) ∧ ((ve_tc kd).getD s 9 = 2)) (hk : ve_k h a = kd) (hr : ve_R h a s = some b) (k : vx_W d mi q lv (.ref b :: st) h Q) : vx_W d mi pc lv (.ref a :: st) h Q := by
  obtain ⟨hf, hs, ht⟩ := hf
  refine vx_he hf rfl (st' := .ref b :: st) (h' := h) ?_ k
  unfold ve_he
  dsimp only
  unfold ve_h_getfield
  dsimp only
  rw [hs]
  dsimp only
  rw [vx_bt hk, ht, hr]
  rfl
theorem vx_putI {idx kd s a : Nat} {x : Int} {fin : Bool} (hf : vx_at mi pc (.putfield idx) q ∧ ve_as (ve_fo (ve_ow mi)) idx = some (kd, s, fin) ∧ ((ve_tc kd).getD s 9 = 0) ∧ (!fin || (ve_ini mi && (ve_ow mi).beq kd)) = true) (hk : ve_k h a = kd) (k : ∀ h1, h1 = vx_sJ h a s x → vx_W d mi q lv st h1 Q) : vx_W d mi pc lv (.int (vx_i x) :: .ref a :: st) h Q := by
  obtain ⟨hf, hs, ht, hz⟩ := hf
  refine vx_he hf rfl (st' := st) (h' := vx_sJ h a s x) ?_ (k _ rfl)
  unfold ve_he
  dsimp only
  unfold ve_h_putfield
  dsimp only
  rw [hs]
  dsimp only
  rw [vx_bt hk, hz, ht]
  rfl
theorem vx_putZ {idx kd s a : Nat} {x : Int} {fin : Bool} (hf : vx_at mi pc (.putfield idx) q ∧ ve_as (ve_fo (ve_ow mi)) idx = some (kd, s, fin) ∧ ((ve_tc kd).getD s 9 = 3) ∧ (!fin || (ve_ini mi && (ve_ow mi).beq kd)) = true) (hk : ve_k h a = kd) (hv : x = 0 ∨ x = 1) (k : ∀ h1, h1 = vx_sJ h a s x → vx_W d mi q lv st h1 Q) : vx_W d mi pc lv (.int (vx_i x) :: .ref a :: st) h Q := by
  obtain ⟨hf, hs, ht, hz⟩ := hf
  refine vx_he hf rfl (st' := st) (h' := vx_sJ h a s x) ?_ (k _ rfl)
  unfold ve_he
  dsimp only
  unfold ve_h_putfield
  dsimp only
  rw [hs]
  dsimp only
  rw [vx_bt hk, hz, ht]
  have hv2 : vx_i x = 0 ∨ vx_i x = 1 := by rcases hv with rfl | rfl; exact Or.inl rfl; exact Or.inr rfl
  exact if_pos hv2
theorem vx_putL {idx kd s a : Nat} {x : Int} {fin : Bool} (hf : vx_at mi pc (.putfield idx) q ∧ ve_as (ve_fo (ve_ow mi)) idx = some (kd, s, fin) ∧ ((ve_tc kd).getD s 9 = 1) ∧ (!fin || (ve_ini mi && (ve_ow mi).beq kd)) = true) (hk : ve_k h a = kd) (k : ∀ h1, h1 = vx_sK h a s x → vx_W d mi q lv st h1 Q) : vx_W d mi pc lv (.long (vx_l x) :: .ref a :: st) h Q := by
  obtain ⟨hf, hs, ht, hz⟩ := hf
  refine vx_he hf rfl (st' := st) (h' := vx_sK h a s x) ?_ (k _ rfl)
  unfold ve_he
  dsimp only
  unfold ve_h_putfield
  dsimp only
  rw [hs]
  dsimp only
  rw [vx_bt hk, hz, ht]
  rfl
theorem vx_putR {idx kd s a : Nat} {b : Nat} {fin : Bool} (hf : vx_at mi pc (.putfield idx) q ∧ ve_as (ve_fo (ve_ow mi)) idx = some (kd, s, fin) ∧ ((ve_tc kd).getD s 9 = 2) ∧ (!fin || (ve_ini mi && (ve_ow mi).beq kd)) = true) (hk : ve_k h a = kd) (k : ∀ h1, h1 = ve_sR h a s (some b) → vx_W d mi q lv st h1 Q) : vx_W d mi pc lv (.ref (b) :: .ref a :: st) h Q := by
  obtain ⟨hf, hs, ht, hz⟩ := hf
  refine vx_he hf rfl (st' := st) (h' := ve_sR h a s (some b)) ?_ (k _ rfl)
  unfold ve_he
  dsimp only
  unfold ve_h_putfield
  dsimp only
  rw [hs]
  dsimp only
  rw [vx_bt hk, hz, ht]
  rfl
theorem vx_alen {a : Nat} (hf : vx_at mi pc .arraylength q) (hk : 20 ≤ ve_k h a) (k : vx_W d mi q lv (.int (vx_i (ve_z h a)) :: st) h Q) : vx_W d mi pc lv (.ref a :: st) h Q := by
  refine vx_he hf rfl (st' := .int (vx_i (ve_z h a)) :: st) (h' := h) ?_ k
  unfold ve_he
  dsimp only
  unfold ve_h_arraylength vx_i
  dsimp only
  rw [Nat.ble_eq_true_of_le hk, Int32.ofInt_eq_ofNat]
  rfl
theorem vx_iaload {a z : Nat} {i : Int} (hf : vx_at mi pc .iaload q) (hk : ve_k h a = 20) (hz : ve_z h a = z) (hi : 0 ≤ i ∧ i < (z : Int) ∧ i < 2147483648) (k : vx_W d mi q lv (.int (vx_i (vx_J h a i.toNat)) :: st) h Q) : vx_W d mi pc lv (.int (vx_i i) :: .ref a :: st) h Q := by
  refine vx_he hf rfl (st' := .int (vx_i (vx_J h a i.toNat)) :: st) (h' := h) ?_ k
  unfold ve_he
  dsimp only
  unfold ve_h_iaload vx_J
  dsimp only
  rw [vx_i_of, hk, hz, if_neg (vx_inb hi), vx_nat ⟨hi.1, hi.2.2⟩]
  rfl
theorem vx_iaload30 {a z : Nat} {i : Int} (hf : vx_at mi pc .iaload q) (hk : ve_k h a = 30) (hz : ve_z h a = z) (hi : 0 ≤ i ∧ i < (z : Int) ∧ i < 2147483648) (k : vx_W d mi q lv (.int (vx_i (vx_J h a i.toNat)) :: st) h Q) : vx_W d mi pc lv (.int (vx_i i) :: .ref a :: st) h Q := by
  refine vx_he hf rfl (st' := .int (vx_i (vx_J h a i.toNat)) :: st) (h' := h) ?_ k
  unfold ve_he
  dsimp only
  unfold ve_h_iaload vx_J
  dsimp only
  rw [vx_i_of, hk, hz, if_neg (vx_inb hi), vx_nat ⟨hi.1, hi.2.2⟩]
  rfl
theorem vx_baload {a z : Nat} {i : Int} (hf : vx_at mi pc .baload q) (hk : ve_k h a = 22) (hz : ve_z h a = z) (hi : 0 ≤ i ∧ i < (z : Int) ∧ i < 2147483648) (k : vx_W d mi q lv (.int (vx_i (vx_J h a i.toNat)) :: st) h Q) : vx_W d mi pc lv (.int (vx_i i) :: .ref a :: st) h Q := by
  refine vx_he hf rfl (st' := .int (vx_i (vx_J h a i.toNat)) :: st) (h' := h) ?_ k
  unfold ve_he
  dsimp only
  unfold ve_h_baload vx_J
  dsimp only
  rw [vx_i_of, hk, hz, if_neg (vx_inb hi), vx_nat ⟨hi.1, hi.2.2⟩]
  rfl
theorem vx_zaload {a z : Nat} {i : Int} (hf : vx_at mi pc .baload q) (hk : ve_k h a = 23) (hz : ve_z h a = z) (hi : 0 ≤ i ∧ i < (z : Int) ∧ i < 2147483648) (k : vx_W d mi q lv (.int (vx_i (vx_J h a i.toNat)) :: st) h Q) : vx_W d mi pc lv (.int (vx_i i) :: .ref a :: st) h Q := by
  refine vx_he hf rfl (st' := .int (vx_i (vx_J h a i.toNat)) :: st) (h' := h) ?_ k
  unfold ve_he
  dsimp only
  unfold ve_h_baload vx_J
  dsimp only
  rw [vx_i_of, hk, hz, if_neg (vx_inb hi), vx_nat ⟨hi.1, hi.2.2⟩]
  rfl
theorem vx_laload {a z : Nat} {i : Int} (hf : vx_at mi pc .laload q) (hk : ve_k h a = 21) (hz : ve_z h a = z) (hi : 0 ≤ i ∧ i < (z : Int) ∧ i < 2147483648) (k : vx_W d mi q lv (.long (vx_l (vx_K h a i.toNat)) :: st) h Q) : vx_W d mi pc lv (.int (vx_i i) :: .ref a :: st) h Q := by
  refine vx_he hf rfl (st' := .long (vx_l (vx_K h a i.toNat)) :: st) (h' := h) ?_ k
  unfold ve_he
  dsimp only
  unfold ve_h_laload vx_K
  dsimp only
  rw [vx_l_of, hk, hz, if_neg (vx_inb hi), vx_nat ⟨hi.1, hi.2.2⟩]
  rfl
theorem vx_aaload {a b z : Nat} {i : Int} (hf : vx_at mi pc .aaload q) (hk : ve_k h a = 24) (hz : ve_z h a = z) (hi : 0 ≤ i ∧ i < (z : Int) ∧ i < 2147483648) (hr : ve_R h a i.toNat = some b) (k : vx_W d mi q lv (.ref b :: st) h Q) : vx_W d mi pc lv (.int (vx_i i) :: .ref a :: st) h Q := by
  refine vx_he hf rfl (st' := .ref b :: st) (h' := h) ?_ k
  unfold ve_he
  dsimp only
  unfold ve_h_aaload
  dsimp only
  rw [hk, hz, if_neg (vx_inb hi), vx_nat ⟨hi.1, hi.2.2⟩, hr]
  rfl
theorem vx_iastore {a z : Nat} {i x : Int} (hf : vx_at mi pc .iastore q) (hk : ve_k h a = 20) (hz : ve_z h a = z) (hi : 0 ≤ i ∧ i < (z : Int) ∧ i < 2147483648) (k : ∀ h1, h1 = vx_sJ h a i.toNat x → vx_W d mi q lv st h1 Q) : vx_W d mi pc lv (.int (vx_i x) :: .int (vx_i i) :: .ref a :: st) h Q := by
  refine vx_he hf rfl (st' := st) (h' := vx_sJ h a i.toNat x) ?_ (k _ rfl)
  unfold ve_he
  dsimp only
  unfold ve_h_iastore
  dsimp only
  rw [hk, hz, if_neg (vx_inb hi), vx_nat ⟨hi.1, hi.2.2⟩]
  rfl
theorem vx_lastore {a z : Nat} {i x : Int} (hf : vx_at mi pc .lastore q) (hk : ve_k h a = 21) (hz : ve_z h a = z) (hi : 0 ≤ i ∧ i < (z : Int) ∧ i < 2147483648) (k : ∀ h1, h1 = vx_sK h a i.toNat x → vx_W d mi q lv st h1 Q) : vx_W d mi pc lv (.long (vx_l x) :: .int (vx_i i) :: .ref a :: st) h Q := by
  refine vx_he hf rfl (st' := st) (h' := vx_sK h a i.toNat x) ?_ (k _ rfl)
  unfold ve_he
  dsimp only
  unfold ve_h_lastore
  dsimp only
  rw [hk, hz, if_neg (vx_inb hi), vx_nat ⟨hi.1, hi.2.2⟩]
  rfl
theorem vx_bastore {a z : Nat} {i x : Int} (hf : vx_at mi pc .bastore q) (hk : ve_k h a = 22) (hz : ve_z h a = z) (hi : 0 ≤ i ∧ i < (z : Int) ∧ i < 2147483648) (hv : -128 ≤ x ∧ x < 128) (k : ∀ h1, h1 = vx_sJ h a i.toNat x → vx_W d mi q lv st h1 Q) : vx_W d mi pc lv (.int (vx_i x) :: .int (vx_i i) :: .ref a :: st) h Q := by
  refine vx_he hf rfl (st' := st) (h' := vx_sJ h a i.toNat x) ?_ (k _ rfl)
  unfold ve_he
  dsimp only
  unfold ve_h_bastore
  dsimp only
  rw [hk, hz, if_neg (vx_inb hi), vx_nat ⟨hi.1, hi.2.2⟩, vx_i_b hv]
  rfl
theorem vx_zastore {a z : Nat} {i x : Int} (hf : vx_at mi pc .bastore q) (hk : ve_k h a = 23) (hz : ve_z h a = z) (hi : 0 ≤ i ∧ i < (z : Int) ∧ i < 2147483648) (hv : x = 0 ∨ x = 1) (k : ∀ h1, h1 = vx_sJ h a i.toNat x → vx_W d mi q lv st h1 Q) : vx_W d mi pc lv (.int (vx_i x) :: .int (vx_i i) :: .ref a :: st) h Q := by
  refine vx_he hf rfl (st' := st) (h' := vx_sJ h a i.toNat x) ?_ (k _ rfl)
  unfold ve_he
  dsimp only
  unfold ve_h_bastore
  dsimp only
  have hv2 : vx_i x = 0 ∨ vx_i x = 1 := by rcases hv with rfl | rfl; exact Or.inl rfl; exact Or.inr rfl
  rw [hk, hz, if_neg (vx_inb hi), if_neg (vx_inb hi), vx_nat ⟨hi.1, hi.2.2⟩, if_pos hv2]
  rfl
theorem vx_new {idx kd z : Nat} (hf : vx_at mi pc (.new idx) q ∧ ve_as (ve_no (ve_ow mi)) idx = some (kd, z)) (hr : ve_rk h z = true) (k : ∀ h1, h1 = ve_new h kd z → vx_W d mi q lv (.ref (ve_n h) :: st) h1 Q) : vx_W d mi pc lv st h Q := by
  refine vx_he hf.1 rfl (st' := .ref (ve_n h) :: st) (h' := ve_new h kd z) ?_ (k _ rfl)
  unfold ve_he
  dsimp only
  unfold ve_h_new
  rw [hf.2]
  dsimp only
  rw [hr]
  rfl
/-- returns -/
theorem vx_rt {i : Instr} {v : Option Value} (hf : vx_at mi pc i q ∧ ve_ct i = 0) (hv : ve_rv (ve_rt mi) i st = some v) (k : Q (.inl v) h) : vx_W d mi pc lv st h Q := by
  refine vx_end (o := .inl v) (h' := h) (fun rc => ?_) k
  unfold ve_F
  rw [hf.1.1]
  dsimp only
  rw [hf.2]
  show (match ve_rv (ve_rt mi) i st with | some v => some ((Sum.inl v : ve_O), h) | none => none) = _
  rw [hv]
theorem vx_retIQ {x : Int32} (hf : vx_at mi pc .ireturn q ∧ ve_rt mi = some .int) (k : Q (.inl (some (.int x))) h) : vx_W d mi pc lv [.int x] h Q := by
  refine vx_rt ⟨hf.1, rfl⟩ ?_ k
  rw [hf.2]
  rfl
theorem vx_retZQ {x : Int} (hf : vx_at mi pc .ireturn q ∧ ve_rt mi = some .boolean) (hx : x = 0 ∨ x = 1) (k : Q (.inl (some (.int (vx_i x)))) h) : vx_W d mi pc lv [.int (vx_i x)] h Q := by
  refine vx_rt ⟨hf.1, rfl⟩ ?_ k
  rw [hf.2]
  have hv2 : vx_i x = 0 ∨ vx_i x = 1 := by rcases hx with rfl | rfl; exact Or.inl rfl; exact Or.inr rfl
  show (if vx_i x = 0 ∨ vx_i x = 1 then _ else _) = _
  rw [if_pos hv2]
theorem vx_retLQ {x : Int64} (hf : vx_at mi pc .lreturn q ∧ ve_rt mi = some .long) (k : Q (.inl (some (.long x))) h) : vx_W d mi pc lv [.long x] h Q := by
  refine vx_rt ⟨hf.1, rfl⟩ ?_ k
  rw [hf.2]
  rfl
theorem vx_retVQ (hf : vx_at mi pc .return_ q ∧ ve_rt mi = none) (k : Q (.inl none) h) : vx_W d mi pc lv [] h Q := by
  refine vx_rt ⟨hf.1, rfl⟩ ?_ k
  rw [hf.2]
  rfl
theorem vx_retI {x : Int} {P : Int → ve_H → Prop} (hf : vx_at mi pc .ireturn q ∧ ve_rt mi = some .int) (hx : vx_rI x) (k : P x h) : vx_W d mi pc lv [.int (vx_i x)] h (vx_RI P) := vx_retIQ hf ⟨x, rfl, hx, k⟩
theorem vx_retZ {x : Int} {P : Int → ve_H → Prop} (hf : vx_at mi pc .ireturn q ∧ ve_rt mi = some .boolean) (hx : x = 0 ∨ x = 1) (k : P x h) : vx_W d mi pc lv [.int (vx_i x)] h (vx_RI P) := vx_retZQ hf hx ⟨x, rfl, by omega, k⟩
theorem vx_retL {x : Int} {P : Int → ve_H → Prop} (hf : vx_at mi pc .lreturn q ∧ ve_rt mi = some .long) (hx : vx_rL x) (k : P x h) : vx_W d mi pc lv [.long (vx_l x)] h (vx_RL P) := vx_retLQ hf ⟨x, rfl, hx, k⟩
theorem vx_retV {P : ve_H → Prop} (hf : vx_at mi pc .return_ q ∧ ve_rt mi = none) (k : P h) : vx_W d mi pc lv [] h (vx_RV P) := vx_retVQ hf ⟨rfl, k⟩
theorem vx_throw {a : Nat} (hf : vx_at mi pc .athrow q ∧ (ve_hs mi).isEmpty = true) (hk : 10 ≤ ve_k h a ∧ ve_k h a ≤ 12) (k : Q (.inr a) h) : vx_W d mi pc lv (.ref a :: st) h Q := by
  refine vx_end (o := .inr a) (h' := h) (fun rc => ?_) k
  unfold ve_F
  rw [hf.1.1]
  show (bif Nat.ble 10 (ve_k h a) && (Nat.ble (ve_k h a) 12 && (ve_hs mi).isEmpty) then some ((Sum.inr a : ve_O), h) else none) = _
  rw [Nat.ble_eq_true_of_le hk.1, Nat.ble_eq_true_of_le hk.2, hf.2]
  rfl
/-- calls -/
theorem vx_oinit {i : Instr} {a np cm : Nat} (hf : vx_at mi pc i q ∧ q = pc + 3 ∧ ve_ct i = 2 ∧ ve_as (ve_co (ve_ow mi)) (ve_ci i).1 = some (0, cm, np) ∧ ve_hw (ve_ci i).2 0 = true) (hw : Nat.ble (ve_wd st) 20 = true) (k : vx_W d mi q lv st h Q) : vx_W d mi pc lv (.ref a :: st) h Q := by
  obtain ⟨hf, rfl, hc, hco, hhw⟩ := hf
  refine vx_go (fun rc => ?_) k
  unfold ve_F
  rw [hf.1]
  dsimp only
  rw [hc]
  show (match ve_as (ve_co (ve_ow mi)) (ve_ci i).1 with | none => none | some (how, cm, np) => _) = _
  rw [hco]
  dsimp only
  rw [hhw]
  show (bif Nat.ble (ve_wd st) 20 then rc d mi (pc + 3) lv st h else none) = _
  rw [hw]
  rfl
theorem vx_xinit {i : Instr} {a np cm : Nat} (hf : vx_at mi pc i q ∧ q = pc + 3 ∧ ve_ct i = 2 ∧ ve_as (ve_co (ve_ow mi)) (ve_ci i).1 = some (1, cm, np) ∧ ve_hw (ve_ci i).2 1 = true) (hk : ve_k h a = cm) (hw : Nat.ble (ve_wd st) 20 = true) (k : vx_W d mi q lv st h Q) : vx_W d mi pc lv (.ref a :: st) h Q := by
  obtain ⟨hf, rfl, hc, hco, hhw⟩ := hf
  refine vx_go (fun rc => ?_) k
  unfold ve_F
  rw [hf.1]
  dsimp only
  rw [hc]
  show (match ve_as (ve_co (ve_ow mi)) (ve_ci i).1 with | none => none | some (how, cm, np) => _) = _
  rw [hco]
  dsimp only
  rw [hhw]
  show (bif (ve_k h a).beq cm && Nat.ble (ve_wd st) 20 then rc d mi (pc + 3) lv st h else none) = _
  rw [vx_bt hk, hw]
  rfl
theorem vx_acopy {i : Instr} {src dst np cm z1 z2 : Nat} {k sp dp : Int} (hf : vx_at mi pc i q ∧ q = pc + 3 ∧ ve_ct i = 2 ∧ ve_as (ve_co (ve_ow mi)) (ve_ci i).1 = some (2, cm, np) ∧ ve_hw (ve_ci i).2 2 = true) (hk1 : ve_k h src = 21) (hk2 : ve_k h dst = 21) (hz1 : ve_z h src = z1) (hz2 : ve_z h dst = z2) (hi : 0 ≤ k ∧ 0 ≤ sp ∧ 0 ≤ dp ∧ sp + k ≤ (z1 : Int) ∧ dp + k ≤ (z2 : Int) ∧ k < 2147483648 ∧ sp < 2147483648 ∧ dp < 2147483648) (hw : Nat.ble (ve_wd st) 20 = true) (c : ∀ h1, h1 = ve_cp h src sp.toNat dst dp.toNat h k.toNat → vx_W d mi q lv st h1 Q) : vx_W d mi pc lv (.int (vx_i k) :: .int (vx_i dp) :: .ref dst :: .int (vx_i sp) :: .ref src :: st) h Q := by
  obtain ⟨hf, rfl, hc, hco, hhw⟩ := hf
  refine vx_go (fun rc => ?_) (c _ rfl)
  unfold ve_F
  rw [hf.1]
  dsimp only
  rw [hc]
  show (match ve_as (ve_co (ve_ow mi)) (ve_ci i).1 with | none => none | some (how, cm, np) => _) = _
  rw [hco]
  dsimp only
  rw [hhw]
  show (bif (ve_k h src).beq 21 && ((ve_k h dst).beq 21 && Nat.ble (ve_wd st) 20) then (if vx_i k < 0 ∨ vx_i sp < 0 ∨ vx_i dp < 0 ∨ ve_z h src < (vx_i sp).toNatClampNeg + (vx_i k).toNatClampNeg ∨ ve_z h dst < (vx_i dp).toNatClampNeg + (vx_i k).toNatClampNeg then none else rc d mi (pc + 3) lv st (ve_cp h src (vx_i sp).toNatClampNeg dst (vx_i dp).toNatClampNeg h (vx_i k).toNatClampNeg)) else none) = _
  rw [vx_bt hk1, vx_bt hk2, hw, vx_nat (i := k) (by omega), vx_nat (i := sp) (by omega), vx_nat (i := dp) (by omega)]
  refine if_neg ?_
  rw [hz1, hz2]
  intro hc
  rcases hc with hc | hc | hc | hc | hc
  · have := (vx_i_lt (x := k) (y := 0) (by omega) (by omega)).mp hc; omega
  · have := (vx_i_lt (x := sp) (y := 0) (by omega) (by omega)).mp hc; omega
  · have := (vx_i_lt (x := dp) (y := 0) (by omega) (by omega)).mp hc; omega
  · omega
  · omega
def vx_hc : Nat → Bool
  | 0 => false
  | 1 => false
  | 2 => false
  | _ => true
abbrev vx_ck (mi pc q : Nat) (i : Instr) (how cm np : Nat) : Prop := vx_at mi pc i q ∧ q = pc + 3 ∧ ve_ct i = 2 ∧ ve_as (ve_co (ve_ow mi)) (ve_ci i).1 = some (how, cm, np) ∧ ve_hw (ve_ci i).2 how = true ∧ vx_hc how = true ∧ vx_M cm = true
theorem vx_call {i : Instr} {how cm np : Nat} {args rest : List Value} (hf : vx_ck mi pc q i how cm np) (hs : st = args.reverse ++ rest) (hl : args.length = np) (hw : Nat.ble (ve_wd rest) 20 = true) (hw2 : Nat.ble (ve_wd args) (ve_ml cm) = true) (hr : ((how.beq 4 || how.beq 14) || ve_rc h (ve_ow cm) args) = true)
    (k : vx_C d cm args h (fun o h1 => match o with
      | .inl v => vx_sh h h1 → vx_W (d + 1) mi q lv (v.toList ++ rest) h1 Q
      | .inr a => vx_sh h h1 → (∃ hp, (match ve_hs mi with | [] => none | hs => ve_hf hs pc (ve_k h1 a)) = some hp ∧ vx_W (d + 1) mi hp lv [.ref a] h1 Q) ∨ (ve_hs mi = [] ∧ Q (.inr a) h1))) : vx_W (d + 1) mi pc lv st h Q := by
  obtain ⟨hf, rfl, hc, hco, hhw, hh, hM⟩ := hf
  subst hs
  have hlr : args.reverse.length = np := by rw [List.length_reverse]; exact hl
  have ht : (args.reverse ++ rest).take np = args.reverse := by rw [← hlr]; exact List.take_left
  have hd : (args.reverse ++ rest).drop np = rest := by rw [← hlr]; exact List.drop_left
  obtain ⟨n1, o1, h1, hr1, hq1⟩ := k
  have hsh := vx_run_sh _ _ _ _ _ _ _ _ _ hM hr1
  have hgo : ∀ (rc : ve_Rc), ve_F rc (d + 1) mi pc lv (args.reverse ++ rest) h = (match rc d cm 0 (ve_en args (ve_ml cm)) [] h with
                    | none => none
                    | some (.inl v, h') => rc (d + 1) mi (pc + 3) lv (v.toList ++ rest) h'
                    | some (.inr a, h') => match ve_hs mi with
                      | [] => some (.inr a, h')
                      | hs => match ve_hf hs pc (ve_k h' a) with
                        | some hp => rc (d + 1) mi hp lv [.ref a] h'
                        | none => none) := by
    intro rc
    unfold ve_F
    rw [hf.1]
    dsimp only
    rw [hc]
    show (match ve_as (ve_co (ve_ow mi)) (ve_ci i).1 with | none => none | some (how, cm, np) => _) = _
    rw [hco]
    dsimp only
    rw [hhw, ht, hd]
    have hw9 : (args.reverse.length.beq np && (Nat.ble (ve_wd rest) 20 && (Nat.ble (ve_wd args.reverse.reverse) (ve_ml cm) && ((how.beq 4 || how.beq 14) || ve_rc h (ve_ow cm) args.reverse.reverse)))) = true := by
      rw [List.reverse_reverse, vx_bt hlr, hw, hw2, hr]
      rfl
    clear hco hhw hr
    match how, hh, hw9 with
    | 0, hh, _ => cases hh
    | 1, hh, _ => cases hh
    | 2, hh, _ => cases hh
    | k + 3, _, hw9 =>
      rw [List.reverse_reverse] at hw9 ⊢
      show (bif args.reverse.length.beq np && (Nat.ble (ve_wd rest) 20 && (Nat.ble (ve_wd args) (ve_ml cm) && (((k + 3).beq 4 || (k + 3).beq 14) || ve_rc h (ve_ow cm) args))) then _ else none) = _
      rw [hw9]
      rfl
  cases o1 with
  | inl v =>
    obtain ⟨n2, o2, h2, hr2, hq2⟩ := hq1 hsh
    refine ⟨n1 + n2 + 1, o2, h2, ?_, hq2⟩
    rw [ve_run_S, hgo, ve_mono hr1 n2]
    rw [Nat.add_comm n1 n2]
    exact ve_mono hr2 n1
  | inr a =>
    rcases hq1 hsh with ⟨hp, hhp, n2, o2, h2, hr2, hq2⟩ | ⟨hnil, hq⟩
    · refine ⟨n1 + n2 + 1, o2, h2, ?_, hq2⟩
      rw [ve_run_S, hgo, ve_mono hr1 n2]
      dsimp only
      cases hhs : ve_hs mi with
      | nil => rw [hhs] at hhp; cases hhp
      | cons z1 z2 =>
        rw [hhs] at hhp
        dsimp only at hhp ⊢
        rw [hhp]
        rw [Nat.add_comm n1 n2]
        exact ve_mono hr2 n1
    · refine ⟨n1 + 1, .inr a, h1, ?_, hq⟩
      rw [ve_run_S, hgo, hr1, hnil]
theorem vx_callI {i : Instr} {how cm np : Nat} {args rest : List Value} {P : Int → ve_H → Prop} (hf : vx_ck mi pc q i how cm np) (hs : st = args.reverse ++ rest) (hl : args.length = np) (hw : Nat.ble (ve_wd rest) 20 = true) (hw2 : Nat.ble (ve_wd args) (ve_ml cm) = true) (hr : ((how.beq 4 || how.beq 14) || ve_rc h (ve_ow cm) args) = true)
    (k : vx_CI d cm args h P) (c : ∀ x h1, vx_rI x → vx_sh h h1 → P x h1 → vx_W (d + 1) mi q lv (.int (vx_i x) :: rest) h1 Q) : vx_W (d + 1) mi pc lv st h Q := by
  refine vx_call hf hs hl hw hw2 hr (vx_mono k ?_)
  rintro o h1 ⟨x, rfl, hx, hp⟩
  intro hsh
  exact c x h1 hx hsh hp
theorem vx_callL {i : Instr} {how cm np : Nat} {args rest : List Value} {P : Int → ve_H → Prop} (hf : vx_ck mi pc q i how cm np) (hs : st = args.reverse ++ rest) (hl : args.length = np) (hw : Nat.ble (ve_wd rest) 20 = true) (hw2 : Nat.ble (ve_wd args) (ve_ml cm) = true) (hr : ((how.beq 4 || how.beq 14) || ve_rc h (ve_ow cm) args) = true)
    (k : vx_CL d cm args h P) (c : ∀ x h1, vx_rL x → vx_sh h h1 → P x h1 → vx_W (d + 1) mi q lv (.long (vx_l x) :: rest) h1 Q) : vx_W (d + 1) mi pc lv st h Q := by
  refine vx_call hf hs hl hw hw2 hr (vx_mono k ?_)
  rintro o h1 ⟨x, rfl, hx, hp⟩
  intro hsh
  exact c x h1 hx hsh hp
theorem vx_callV {i : Instr} {how cm np : Nat} {args rest : List Value} {P : ve_H → Prop} (hf : vx_ck mi pc q i how cm np) (hs : st = args.reverse ++ rest) (hl : args.length = np) (hw : Nat.ble (ve_wd rest) 20 = true) (hw2 : Nat.ble (ve_wd args) (ve_ml cm) = true) (hr : ((how.beq 4 || how.beq 14) || ve_rc h (ve_ow cm) args) = true)
    (k : vx_CV d cm args h P) (c : ∀ h1, vx_sh h h1 → P h1 → vx_W (d + 1) mi q lv rest h1 Q) : vx_W (d + 1) mi pc lv st h Q := by
  refine vx_call hf hs hl hw hw2 hr (vx_mono k ?_)
  rintro o h1 ⟨rfl, hp⟩
  intro hsh
  exact c h1 hsh hp
end
