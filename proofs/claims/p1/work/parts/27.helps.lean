/-! Small helps of the printed walks -/
theorem vx_IL {x : Int} (h : vx_rI x) : vx_rL x := by omega
theorem vx_RtJ {h h1 : ve_H} {a s b k : Nat} {x : Int} {v : Option Nat} (e : h1 = vx_sJ h a s x) (hr : ve_R h b k = v) : ve_R h1 b k = v := by subst e; exact hr
theorem vx_RtK {h h1 : ve_H} {a s b k : Nat} {x : Int} {v : Option Nat} (e : h1 = vx_sK h a s x) (hr : ve_R h b k = v) : ve_R h1 b k = v := by subst e; exact hr
theorem vx_RtR {h h1 : ve_H} {a s b k : Nat} {x v : Option Nat} (e : h1 = ve_sR h a s x) (hs : k ≠ s) (hr : ve_R h b k = v) : ve_R h1 b k = v := by
  subst e
  rw [ve_R_sR, if_neg (fun q => hs q.2)]
  exact hr
theorem vx_Rsm {h h1 : ve_H} {a s : Nat} {x : Option Nat} (e : h1 = ve_sR h a s x) : ve_R h1 a s = x := by
  subst e
  rw [ve_R_sR, if_pos ⟨rfl, rfl⟩]
theorem vx_cpR (h0 : ve_H) (src sp dst dp : Nat) (h : ve_H) (b k : Nat) : ∀ n, ve_R (ve_cp h0 src sp dst dp h n) b k = ve_R h b k
  | 0 => rfl
  | n + 1 => vx_cpR h0 src sp dst dp h b k n
theorem vx_Rtc {h h1 : ve_H} {src sp dst dp n b k : Nat} {v : Option Nat} (e : h1 = ve_cp h src sp dst dp h n) (hr : ve_R h b k = v) : ve_R h1 b k = v := by
  subst e
  rw [vx_cpR]
  exact hr
theorem vx_zc : vx_gs.all (fun l => l.all (fun e => Nat.blt e.2.1 10000)) = true := by decide +kernel
theorem vx_za_lt (a : Nat) : vx_za a ≤ 10000 := by
  unfold vx_za vx_en
  rcases ve_getD_mem (vx_gs.getD (a / 32) []) (a % 32) (0, 0, []) with h | h
  · rcases ve_getD_mem vx_gs (a / 32) [] with h2 | h2
    · have h3 := List.all_eq_true.mp (List.all_eq_true.mp vx_zc _ h2) _ h
      have := Nat.le_of_ble_eq_true h3
      omega
    · rw [h2] at h
      cases h
  · rw [h]
    decide
theorem vx_ix {i : Int} {z : Nat} (h : 0 ≤ i ∧ i < (z : Int)) (hz : z ≤ 10000) : 0 ≤ i ∧ i < (z : Int) ∧ i < 2147483648 := ⟨h.1, h.2, by omega⟩
theorem vx_tn {i : Int} {z : Nat} (h : 0 ≤ i ∧ i < (z : Int)) : i.toNat < z := by omega
theorem vx_cx {n sp dp : Int} {z1 z2 : Nat} (h : 0 ≤ n ∧ 0 ≤ sp ∧ 0 ≤ dp ∧ sp + n ≤ (z1 : Int) ∧ dp + n ≤ (z2 : Int)) (h1 : z1 ≤ 10000) (h2 : z2 ≤ 10000) : 0 ≤ n ∧ 0 ≤ sp ∧ 0 ≤ dp ∧ sp + n ≤ (z1 : Int) ∧ dp + n ≤ (z2 : Int) ∧ n < 2147483648 ∧ sp < 2147483648 ∧ dp < 2147483648 := by omega
theorem vx_rcv {b : Bool} {h : ve_H} {a kd cm : Nat} {r : List Value} (hk : ve_k h a = kd) (ho : ve_ow cm = kd) : (b || ve_rc h (ve_ow cm) (.ref a :: r)) = true := by
  rw [Bool.or_eq_true]
  exact Or.inr (show (ve_k h a).beq (ve_ow cm) = true from vx_bt (hk.trans ho.symm))
theorem vx_w2 {args : List Value} {cm w ml : Nat} (hw : ve_wd args = w) (hm : Nat.ble w ml = true ∧ ve_ml cm = ml) : Nat.ble (ve_wd args) (ve_ml cm) = true := by
  rw [hw, hm.2]
  exact hm.1
/-- ends with an int or with an exception of a kind -/
def vx_RX (P : Int → ve_H → Prop) (X : Nat → ve_H → Prop) (o : ve_O) (h : ve_H) : Prop := (∃ x, o = .inl (some (.int (vx_i x))) ∧ vx_rI x ∧ P x h) ∨ (∃ a, o = .inr a ∧ X (ve_k h a) h)
def vx_RXL (P : Int → ve_H → Prop) (X : Nat → ve_H → Prop) (o : ve_O) (h : ve_H) : Prop := (∃ x, o = .inl (some (.long (vx_l x))) ∧ vx_rL x ∧ P x h) ∨ (∃ a, o = .inr a ∧ X (ve_k h a) h)
def vx_CX (d m : Nat) (args : List Value) (h : ve_H) (P : Int → ve_H → Prop) (X : Nat → ve_H → Prop) : Prop := vx_C d m args h (vx_RX P X)
def vx_CXL (d m : Nat) (args : List Value) (h : ve_H) (P : Int → ve_H → Prop) (X : Nat → ve_H → Prop) : Prop := vx_C d m args h (vx_RXL P X)
section
variable {d mi pc q : Nat} {lv : ve_V} {st : List Value} {h : ve_H} {Q : ve_O → ve_H → Prop}
theorem vx_CX_mono {m : Nat} {args : List Value} {P P' : Int → ve_H → Prop} {X X' : Nat → ve_H → Prop} (k : vx_CX d m args h P X) (hq : ∀ x h1, vx_rI x → P x h1 → P' x h1) (hx : ∀ kd h1, X kd h1 → X' kd h1) : vx_CX d m args h P' X' :=
  vx_mono k (fun _ h1 hh => hh.imp (fun ⟨x, e, hr, hp⟩ => ⟨x, e, hr, hq x h1 hr hp⟩) (fun ⟨a, e, hp⟩ => ⟨a, e, hx _ h1 hp⟩))
theorem vx_CXL_mono {m : Nat} {args : List Value} {P P' : Int → ve_H → Prop} {X X' : Nat → ve_H → Prop} (k : vx_CXL d m args h P X) (hq : ∀ x h1, vx_rL x → P x h1 → P' x h1) (hx : ∀ kd h1, X kd h1 → X' kd h1) : vx_CXL d m args h P' X' :=
  vx_mono k (fun _ h1 hh => hh.imp (fun ⟨x, e, hr, hp⟩ => ⟨x, e, hr, hq x h1 hr hp⟩) (fun ⟨a, e, hp⟩ => ⟨a, e, hx _ h1 hp⟩))
theorem vx_hfm {hp k : Nat} (hh : ve_hf (ve_hs mi) pc k = some hp) : (match ve_hs mi with | [] => none | hs => ve_hf hs pc k) = some hp := by
  cases e : ve_hs mi with
  | nil => rw [e] at hh; cases hh
  | cons a b => rw [e] at hh; exact hh
theorem vx_callX {i : Instr} {how cm np : Nat} {args rest : List Value} {P : Int → ve_H → Prop} {X : Nat → ve_H → Prop} (hf : vx_ck mi pc q i how cm np) (hs : st = args.reverse ++ rest) (hl : args.length = np) (hw : Nat.ble (ve_wd rest) 20 = true) (hw2 : Nat.ble (ve_wd args) (ve_ml cm) = true) (hr : ((how.beq 4 || how.beq 14) || ve_rc h (ve_ow cm) args) = true)
    (k : vx_CX d cm args h P X) (c : ∀ x h1, vx_rI x → vx_sh h h1 → P x h1 → vx_W (d + 1) mi q lv (.int (vx_i x) :: rest) h1 Q) (c2 : ∀ a kd h1, ve_k h1 a = kd → vx_sh h h1 → X kd h1 → ∃ hp, ve_hf (ve_hs mi) pc kd = some hp ∧ vx_W (d + 1) mi hp lv [.ref a] h1 Q) : vx_W (d + 1) mi pc lv st h Q := by
  refine vx_call hf hs hl hw hw2 hr (vx_mono k ?_)
  rintro o h1 (⟨x, rfl, hx, hp⟩ | ⟨a, rfl, hx⟩)
  · intro hsh
    exact c x h1 hx hsh hp
  · intro hsh
    obtain ⟨hp, e1, e2⟩ := c2 a _ h1 rfl hsh hx
    exact Or.inl ⟨hp, vx_hfm e1, e2⟩
theorem vx_callXL {i : Instr} {how cm np : Nat} {args rest : List Value} {P : Int → ve_H → Prop} {X : Nat → ve_H → Prop} (hf : vx_ck mi pc q i how cm np) (hs : st = args.reverse ++ rest) (hl : args.length = np) (hw : Nat.ble (ve_wd rest) 20 = true) (hw2 : Nat.ble (ve_wd args) (ve_ml cm) = true) (hr : ((how.beq 4 || how.beq 14) || ve_rc h (ve_ow cm) args) = true)
    (k : vx_CXL d cm args h P X) (c : ∀ x h1, vx_rL x → vx_sh h h1 → P x h1 → vx_W (d + 1) mi q lv (.long (vx_l x) :: rest) h1 Q) (c2 : ∀ a kd h1, ve_k h1 a = kd → vx_sh h h1 → X kd h1 → ∃ hp, ve_hf (ve_hs mi) pc kd = some hp ∧ vx_W (d + 1) mi hp lv [.ref a] h1 Q) : vx_W (d + 1) mi pc lv st h Q := by
  refine vx_call hf hs hl hw hw2 hr (vx_mono k ?_)
  rintro o h1 (⟨x, rfl, hx, hp⟩ | ⟨a, rfl, hx⟩)
  · intro hsh
    exact c x h1 hx hsh hp
  · intro hsh
    obtain ⟨hp, e1, e2⟩ := c2 a _ h1 rfl hsh hx
    exact Or.inl ⟨hp, vx_hfm e1, e2⟩
theorem vx_RXi {P : Int → ve_H → Prop} {X : Nat → ve_H → Prop} {x : Int} (hr : vx_rI x) (hp : P x h) : vx_RX P X (.inl (some (.int (vx_i x)))) h := Or.inl ⟨x, rfl, hr, hp⟩
theorem vx_RXl {P : Int → ve_H → Prop} {X : Nat → ve_H → Prop} {x : Int} (hr : vx_rL x) (hp : P x h) : vx_RXL P X (.inl (some (.long (vx_l x)))) h := Or.inl ⟨x, rfl, hr, hp⟩
theorem vx_RXx {P : Int → ve_H → Prop} {X : Nat → ve_H → Prop} {a kd : Nat} (hk : ve_k h a = kd) (hp : X kd h) : vx_RX P X (.inr a) h := Or.inr ⟨a, rfl, by rw [hk]; exact hp⟩
theorem vx_RXLx {P : Int → ve_H → Prop} {X : Nat → ve_H → Prop} {a kd : Nat} (hk : ve_k h a = kd) (hp : X kd h) : vx_RXL P X (.inr a) h := Or.inr ⟨a, rfl, by rw [hk]; exact hp⟩
end
/-- the law's own view: all cells, and the script as it was -/
def vx_TL (L : Nat) (xs : Nat → Int32) (h : ve_H) : Prop := vx_T 1 673 h ∧ ve_k h 0 = 30 ∧ ve_z h 0 = L ∧ ∀ i, ve_I h 0 i = xs i
theorem vx_TLsh {L : Nat} {xs : Nat → Int32} {h h1 : ve_H} (hT : vx_TL L xs h) (hs : vx_sh h h1) : vx_TL L xs h1 := by
  obtain ⟨h1, h2, h3, h4⟩ := hT
  have hn : 0 < ve_n h := Nat.lt_of_lt_of_le (by decide) h1.1
  refine ⟨vx_Tsh h1 hs, (hs.2.1 0 hn).1.trans h2, (hs.2.1 0 hn).2.trans h3, fun i => (hs.2.2.2 0 i hn h2).trans (h4 i)⟩
theorem vx_Tsub {lo hi lo' hi' : Nat} {h : ve_H} (hT : vx_T lo hi h) (hl : lo ≤ lo') (hh : hi' ≤ hi) : vx_T lo' hi' h :=
  ⟨Nat.le_trans hh hT.1, fun a h1 h2 => hT.2 a (Nat.le_trans hl h1) (Nat.lt_of_lt_of_le h2 hh)⟩
theorem vx_Jsm {h h1 : ve_H} {a s : Nat} {x : Int} (e : h1 = vx_sJ h a s x) (hx : vx_rI x) : vx_J h1 a s = x := by
  subst e
  show (ve_I (ve_sI h a s (vx_i x)) a s).toInt = x
  rw [ve_I_sI, if_pos ⟨rfl, rfl⟩, vx_i_toInt hx]
theorem vx_JtS {h h1 : ve_H} {a s b k : Nat} {x v : Int} (e : h1 = vx_sJ h a s x) (hn : k ≠ s) (p : vx_J h b k = v) : vx_J h1 b k = v := by
  subst e
  show (ve_I (ve_sI h a s (vx_i x)) b k).toInt = v
  rw [ve_I_sI, if_neg (fun q => hn q.2)]
  exact p
theorem vx_JtA {h h1 : ve_H} {a s b k : Nat} {x v : Int} (e : h1 = vx_sJ h a s x) (hn : b ≠ a) (p : vx_J h b k = v) : vx_J h1 b k = v := by
  subst e
  show (ve_I (ve_sI h a s (vx_i x)) b k).toInt = v
  rw [ve_I_sI, if_neg (fun q => hn q.1)]
  exact p
theorem vx_JtK {h h1 : ve_H} {a s b k : Nat} {x v : Int} (e : h1 = vx_sK h a s x) (p : vx_J h b k = v) : vx_J h1 b k = v := by subst e; exact p
theorem vx_JtR {h h1 : ve_H} {a s b k : Nat} {x : Option Nat} {v : Int} (e : h1 = ve_sR h a s x) (p : vx_J h b k = v) : vx_J h1 b k = v := by subst e; exact p
theorem vx_cpI (h0 : ve_H) (src sp dst dp : Nat) (h : ve_H) (b k : Nat) : ∀ n, ve_I (ve_cp h0 src sp dst dp h n) b k = ve_I h b k
  | 0 => rfl
  | n + 1 => vx_cpI h0 src sp dst dp h b k n
theorem vx_Jtc {h h1 : ve_H} {src sp dst dp n b k : Nat} {v : Int} (e : h1 = ve_cp h src sp dst dp h n) (p : vx_J h b k = v) : vx_J h1 b k = v := by
  subst e
  show (ve_I (ve_cp h src sp dst dp h n) b k).toInt = v
  rw [vx_cpI]
  exact p
