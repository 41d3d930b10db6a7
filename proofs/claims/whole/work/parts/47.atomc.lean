/-! Reading an atom: what comes out; the class -/
abbrev vy_F : Type := Int × Int
def vy_nt (F : vy_F) (k p : Int) : vy_F := if F.1 = 0 ∨ p < F.2 then (k, p) else F
abbrev vy_R8 : Type := Int ⊕ (Nat × vy_V × vy_O × (Nat → Int) × Nat × Int × vy_V × vy_F)
/-- an atom or head: where it is refused, or the token behind it, variables, total, terms, how many, the predicate, the predicates, the fault -/
def vy_am (ts : vy_T) (op hd any : Bool) (i : Nat) (V : vy_V) (O : vy_O) (Pd : vy_V) (F : vy_F) : vy_R8 :=
  if vy_k ts i ≠ 2 then .inl (vy_p ts i)
  else if ¬ vy_vx Pd (vy_v ts i) < Pd.1 ∧ op = true ∧ 16 ≤ Pd.1 then .inl (vy_p ts i)
  else if vy_k ts (i + 1) ≠ 40 then .inl (vy_p ts (i + 1))
  else match vy_ar ts hd any 4 (i + 2) V O (fun _ => 0) with
    | .inl p => .inl p
    | .inr q => if vy_k ts q.1 ≠ 41 then .inl (vy_p ts q.1)
      else if vy_vx Pd (vy_v ts i) < Pd.1 then .inr (q.1 + 1, q.2.1, q.2.2.1, q.2.2.2.1, q.2.2.2.2, (vy_vx Pd (vy_v ts i) : Int), Pd, if Pd.2.2 (vy_vx Pd (vy_v ts i)) = (q.2.2.2.2 : Int) then F else vy_nt F 2 (vy_p ts i))
      else if op = true then .inr (q.1 + 1, q.2.1, q.2.2.1, q.2.2.2.1, q.2.2.2.2, (Pd.1 : Int), vy_va Pd (vy_v ts i) (q.2.2.2.2 : Int), F)
      else .inr (q.1 + 1, q.2.1, q.2.2.1, q.2.2.2.1, q.2.2.2.2, -1, Pd, vy_nt F 2 (vy_p ts i))
/-- what a predicate's name comes to -/
def vy_po (op : Bool) (Pd : vy_V) (F : vy_F) (x : Int) (m p : Int) : Int × vy_V × vy_F := if vy_vx Pd x < Pd.1 then ((vy_vx Pd x : Int), Pd, if Pd.2.2 (vy_vx Pd x) = m then F else vy_nt F 2 p) else if op = true then ((Pd.1 : Int), vy_va Pd x m, F) else (-1, Pd, vy_nt F 2 p)
section
variable {i : Nat} {ts : vy_T} {V Pd : vy_V} {O : vy_O} {F : vy_F} {op : Bool}
theorem vy_po_am {hd any : Bool} {q : Nat × vy_V × vy_O × (Nat → Int) × Nat} (hk : vy_k ts i = 2) (hroom : ¬ (¬ vy_vx Pd (vy_v ts i) < Pd.1 ∧ op = true ∧ 16 ≤ Pd.1)) (h40 : vy_k ts (i + 1) = 40) (e : vy_ar ts hd any 4 (i + 2) V O (fun _ => 0) = .inr q) (h41 : vy_k ts q.1 = 41) : vy_am ts op hd any i V O Pd F = .inr (q.1 + 1, q.2.1, q.2.2.1, q.2.2.2.1, q.2.2.2.2, (vy_po op Pd F (vy_v ts i) (q.2.2.2.2 : Int) (vy_p ts i)).1, (vy_po op Pd F (vy_v ts i) (q.2.2.2.2 : Int) (vy_p ts i)).2.1, (vy_po op Pd F (vy_v ts i) (q.2.2.2.2 : Int) (vy_p ts i)).2.2) := by
  unfold vy_am vy_po
  rw [if_neg (fun t => t hk), if_neg hroom, if_neg (fun t => t h40), e]
  show (if vy_k ts q.1 ≠ 41 then _ else _) = _
  rw [if_neg (fun t => t h41)]
  by_cases c1 : vy_vx Pd (vy_v ts i) < Pd.1
  · rw [if_pos c1, if_pos c1]
  · rw [if_neg c1, if_neg c1]
    by_cases c2 : op = true
    · rw [if_pos c2, if_pos c2]
    · rw [if_neg c2, if_neg c2]
end
/-- the predicates of a program of the class's; the reader's fault -/
def vy_cp (h : ve_H) (pi : Nat) (Pd : vy_V) : Prop := vx_o 1 625 5 pi ∧ vx_J h pi 6 = Pd.1 ∧ Pd.1 ≤ 16 ∧ ∀ p, p < Pd.1 → vx_K h (vx_r pi 0) p = Pd.2.1 p ∧ vx_J h (vx_r pi 1) p = Pd.2.2 p ∧ 1 ≤ Pd.2.2 p ∧ Pd.2.2 p ≤ 4
def vy_cf (h : ve_H) (F : vy_F) : Prop := vx_J h 7 11 = F.1 ∧ vx_J h 7 12 = F.2
theorem vy_pn {pi : Nat} (o : vx_o 1 625 5 pi) : pi ≠ 7 ∧ pi ≠ 17 ∧ pi ≠ 18 ∧ pi ≠ 19 ∧ pi ≠ 20 ∧ pi ≠ 4 ∧ pi ≠ 5 ∧ pi ≠ 6 ∧ pi ≠ 2 ∧ pi ≠ 3 ∧ pi ≠ 1 := by
  have k := o.2
  refine ⟨?_, ?_, ?_, ?_, ?_, ?_, ?_, ?_, ?_, ?_, ?_⟩ <;> (rintro rfl; exact absurd k (by decide +kernel))
/-- names and arities of a program lie apart from the reader's cells -/
def vy_pnc (b : Nat) : Bool := Nat.ble 21 b
theorem vy_nmk : (List.range 625).all (fun a => Nat.blt a 1 || (!(vx_ka a).beq 5 || (Nat.ble 39 (vx_r a 0) && (Nat.ble 39 (vx_r a 1) && (Nat.ble 39 (vx_r a 2) && (Nat.ble 39 (vx_r a 3) && (Nat.ble 39 (vx_r a 4) && (Nat.ble 39 (vx_r a 5) && Nat.ble 39 a)))))))) = true := by decide +kernel
theorem vy_nm {pi : Nat} (o : vx_o 1 625 5 pi) : 39 ≤ vx_r pi 0 ∧ 39 ≤ vx_r pi 1 ∧ 39 ≤ vx_r pi 2 ∧ 39 ≤ vx_r pi 3 ∧ 39 ≤ vx_r pi 4 ∧ 39 ≤ vx_r pi 5 ∧ 39 ≤ pi := by
  have h := List.all_eq_true.mp vy_nmk pi (List.mem_range.mpr o.1.2)
  have h1 : Nat.blt pi 1 = false := by
    cases hb : Nat.blt pi 1 with
    | false => rfl
    | true => have := Nat.le_of_ble_eq_true hb; have := o.1.1; omega
  rw [h1, o.2] at h
  simp only [Bool.false_or, Bool.and_eq_true] at h
  have h2 : (!Nat.beq 5 5 || (Nat.ble 39 (vx_r pi 0) && (Nat.ble 39 (vx_r pi 1) && (Nat.ble 39 (vx_r pi 2) && (Nat.ble 39 (vx_r pi 3) && (Nat.ble 39 (vx_r pi 4) && (Nat.ble 39 (vx_r pi 5) && Nat.ble 39 pi))))))) = true := h
  have h3 : (Nat.ble 39 (vx_r pi 0) && (Nat.ble 39 (vx_r pi 1) && (Nat.ble 39 (vx_r pi 2) && (Nat.ble 39 (vx_r pi 3) && (Nat.ble 39 (vx_r pi 4) && (Nat.ble 39 (vx_r pi 5) && Nat.ble 39 pi)))))) = true := h2
  simp only [Bool.and_eq_true] at h3
  obtain ⟨a, b, c, e, f, g, i⟩ := h3
  exact ⟨Nat.le_of_ble_eq_true a, Nat.le_of_ble_eq_true b, Nat.le_of_ble_eq_true c, Nat.le_of_ble_eq_true e, Nat.le_of_ble_eq_true f, Nat.le_of_ble_eq_true g, Nat.le_of_ble_eq_true i⟩
section
variable {d i o pi : Nat} {h : ve_H} {ts : vy_T} {V Pd : vy_V} {O : vy_O} {F : vy_F} {x y : Int}
theorem vc_136 (hT : vx_T 1 625 h) (C : vy_cp h pi Pd) (hx : vx_rL x) : vx_CI d 136 [.ref pi, .long (vx_l x)] h (fun r h1 => h1 = h ∧ ((vy_vx Pd x < Pd.1 ∧ r = (vy_vx Pd x : Nat)) ∨ (vy_vx Pd x = Pd.1 ∧ r = -1))) := by
  obtain ⟨o1, c1, c2, c3⟩ := C
  refine vg_136 o1 hT ?_
  have L : ∀ (m v : Nat) (y : Int), Pd.1 - v = m → v ≤ Pd.1 → y = v → (∀ j, j < v → Pd.2.1 j ≠ x) → vx_W d 136 2 [some (.ref pi), some (.long (vx_l x)), none, some (.int (vx_i y))] [] h (vx_RI (fun r h1 => h1 = h ∧ ((vy_vx Pd x < Pd.1 ∧ r = (vy_vx Pd x : Nat)) ∨ (vy_vx Pd x = Pd.1 ∧ r = -1)))) := by
    intro m
    induction m with
    | zero =>
      intro v y hm hv hy hno
      have hvx : vy_vx Pd x = Pd.1 := vy_ix_eq (fun j hj => hno j (by omega)) (fun q => absurd q (by omega)) (Nat.le_refl _)
      exact vg_136_2 o1 hT ⟨by omega, fun _ => ⟨rfl, Or.inr ⟨hvx, rfl⟩⟩, fun q => absurd q (by omega)⟩
    | succ m ih =>
      intro v y hm hv hy hno
      refine vg_136_2 o1 hT ⟨by omega, fun q => absurd q (by omega), fun _ => ⟨by omega, hx, ?_⟩⟩
      rw [show y.toNat = v by omega, (c3 v (by omega)).1]
      refine ⟨fun q => ih (v + 1) (y + 1) (by omega) (by omega) (by omega) (fun j hj => ?_), fun q => ?_⟩
      · by_cases q2 : j = v
        · rw [q2]; exact q
        · exact hno j (by omega)
      · have hvx : vy_vx Pd x = v := vy_ix_eq hno (fun _ => q) (by omega)
        rw [hvx]
        exact ⟨rfl, Or.inl ⟨by omega, hy⟩⟩
  exact L Pd.1 0 0 rfl (Nat.zero_le _) rfl (fun j hj => by omega)
theorem vc_218_6 {a : Nat} (oa : vx_o 1 625 21 a) (hx : vx_rL x) : ∀ (n k : Nat) (g : ve_H) (z w : Int), vx_za a - k = n → k ≤ vx_za a → z = k → w = (vx_za a : Nat) → vx_T 1 625 g → vx_fr (fun b _ => b = a) h g → (∀ j, j < k → vx_K g a j = x) → vx_W d 218 6 [some (.ref a), some (.long (vx_l x)), none, some (.int (vx_i z)), some (.int (vx_i w))] [] g (vx_RV (fun h1 => vx_fr (fun b _ => b = a) h h1 ∧ ∀ j, j < vx_za a → vx_K h1 a j = x)) := by
  have hza := vx_za_lt a
  intro n
  induction n with
  | zero =>
    intro k g z w hn hk hz hw hT hf hall
    exact vg_218_6 oa hT ⟨by omega, by omega, fun _ => ⟨hf, fun j hj => hall j (by omega)⟩, fun q => absurd q (by omega)⟩
  | succ n ih =>
    intro k g z w hn hk hz hw hT hf hall
    refine vg_218_6 oa hT ⟨by omega, by omega, fun q => absurd q (by omega), fun _ => ⟨by omega, fun h5 e5 T5 => ?_⟩⟩
    refine ih (k + 1) h5 _ _ (by omega) (by omega) (by omega) hw T5 (vx_fr_sK hf e5 rfl) (fun j hj => ?_)
    rw [e5, vx_K_sK hx]
    split
    · rfl
    · exact hall j (by omega)
theorem vc_218 {a : Nat} (oa : vx_o 1 625 21 a) (hT : vx_T 1 625 h) (hx : vx_rL x) : vx_CV d 218 [.ref a, .long (vx_l x)] h (fun h1 => vx_fr (fun b _ => b = a) h h1 ∧ ∀ j, j < vx_za a → vx_K h1 a j = x) :=
  vg_218 oa hT (vc_218_6 oa hx (vx_za a) 0 h 0 _ rfl (Nat.zero_le _) rfl rfl hT vx_fr_refl (fun j hj => by omega))
theorem vc_167 {k : Int} (hT : vx_T 1 625 h) (C : vy_cf h F) (hk : vx_rI k) (hx : vx_rI x) : vx_CV d 167 [.ref 7, .int (vx_i k), .int (vx_i x)] h (fun h1 => vx_fr (fun a k => a = 7 ∧ (k = 11 ∨ k = 12)) h h1 ∧ vy_cf h1 (vy_nt F k x)) := by
  have P : ∀ h2 h3, h2 = vx_sJ h 7 11 k → h3 = vx_sJ h2 7 12 x → (F.1 = 0 ∨ x < F.2) → vx_fr (fun a k => a = 7 ∧ (k = 11 ∨ k = 12)) h h3 ∧ vy_cf h3 (vy_nt F k x) := by
    intro h2 h3 e2 e3 hc
    unfold vy_nt
    rw [if_pos hc]
    refine ⟨vx_fr_sJ (vx_fr_sJ vx_fr_refl e2 (by omega)) e3 (by omega), ?_, ?_⟩
    · rw [e3, vx_J_ne (by omega), e2, vx_J_eq hk]
    · rw [e3, vx_J_eq hx]
  refine vg_167 hT ?_
  rw [C.1, C.2]
  refine ⟨fun q h2 e2 T2 h3 e3 T3 => P h2 h3 e2 e3 (Or.inl q), fun q => ⟨hx, fun q2 => ⟨vx_fr_refl, ?_⟩, fun q2 h2 e2 T2 h3 e3 T3 => P h2 h3 e2 e3 (Or.inr q2)⟩⟩
  unfold vy_nt
  rw [if_neg (by omega)]
  exact C
end
