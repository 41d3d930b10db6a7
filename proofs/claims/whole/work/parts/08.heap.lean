/-! The heap of the small machine in the JVM's machine -/
def ve_tt (kd : Nat) : u_T := fun k => (ve_nm kd, ((ve_fs kd).getD k ("", "", false)).1, ((ve_fs kd).getD k ("", "", false)).2.1, ((ve_fs kd).getD k ("", "", false)).2.2)
def ve_nf (kd : Nat) : Nat := (ve_fs kd).length
def ve_ty (kd k : Nat) : FieldType := (ve_ft kd).getD k .int
def ve_gd (w : Cond) : Bool := decide (w ∈ lw_tbl) && goodWord w
def ve_tcb (t : Nat) (ty : FieldType) : Bool := match t, ty with
  | 0, .int => true
  | 1, .long => true
  | 2, .object _ => true
  | 2, .array _ => true
  | 3, .boolean => true
  | _, _ => false
def ve_ckc (kd : Nat) : Bool := (List.range (ve_nf kd)).all (fun k => ve_gd (u_lay (ve_nm kd) (ve_tt kd) k) && (decide (parseFieldDescriptor (ve_tt kd k).2.2.1 = some (ve_ty kd k)) && ve_tcb ((ve_tc kd).getD k 9) (ve_ty kd k)))
  && (List.range (ve_nf kd)).all (fun a => (List.range (ve_nf kd)).all (fun b => decide (a = b) || decide ((ve_tt kd a).2.1 ≠ (ve_tt kd b).2.1)))
set_option maxRecDepth 100000 in
theorem ve_ckc_ok : ((List.range 13).drop 1).all ve_ckc = true := by decide +kernel
def ve_ckf (own : Nat) (q : Nat × Nat × Nat × Bool) : Bool := Nat.ble 1 q.2.1 && (Nat.ble q.2.1 9 && (Nat.blt q.2.2.1 (ve_nf q.2.1) && (ve_gd (.fieldLink (ve_nm own) q.1 (ve_nm q.2.1) (ve_tt q.2.1 q.2.2.1).2.1 (ve_tt q.2.1 q.2.2.1).2.2.1) && decide ((ve_tt q.2.1 q.2.2.1).2.2.2 = q.2.2.2))))
set_option maxRecDepth 100000 in
theorem ve_ckf_ok : (List.range 16).all (fun own => (ve_fo own).all (ve_ckf own)) = true := by decide +kernel
def ve_ckn (own : Nat) (q : Nat × Nat × Nat) : Bool := Nat.ble 1 q.2.1 && (Nat.ble q.2.1 12 && (ve_gd (.classLink (ve_nm own) q.1 (ve_nm q.2.1)) && (ve_gd (.instantiable (ve_nm q.2.1) q.2.2) && (ve_gd (.initialized (ve_nm q.2.1)) && Nat.ble (ve_nf q.2.1) q.2.2))))
set_option maxRecDepth 100000 in
theorem ve_ckn_ok : (List.range 16).all (fun own => (ve_no own).all (ve_ckn own)) = true := by decide +kernel
set_option maxRecDepth 100000 in
theorem ve_ckl_ok : (List.range 16).all (fun own => (ve_lo own).all (fun q => ve_gd (.constantLong (ve_nm own) q.1 q.2))) = true := by decide +kernel
set_option maxRecDepth 100000 in
theorem ve_cka_ok : [FieldType.int, .long, .byte, .boolean].all (fun t => ve_gd (.arrayClass t)) && ve_gd (.arrayOver (.object "RuleHouse$Rule")) = true := by decide +kernel
theorem ve_as_mem {β : Type} : ∀ (l : List (Nat × β)) (k : Nat) (x : β), ve_as l k = some x → (k, x) ∈ l
  | [], k, x, h => by cases h
  | q :: r, k, x, h => by
    unfold ve_as at h
    cases hb : q.1.beq k with
    | true =>
      rw [hb] at h
      have h1 : some q.2 = some x := h
      have h2 := Nat.eq_of_beq_eq_true hb
      have h3 : q = (k, x) := by rw [← Option.some.inj h1, ← h2]
      rw [h3]
      exact List.mem_cons_self
    | false =>
      rw [hb] at h
      exact List.mem_cons_of_mem _ (ve_as_mem r k x h)
theorem ve_fo_big {own : Nat} (h : 16 ≤ own) : ve_fo own = [] := by
  obtain ⟨k, rfl⟩ : ∃ k, own = k + 16 := ⟨own - 16, by omega⟩
  rfl
theorem ve_no_big {own : Nat} (h : 16 ≤ own) : ve_no own = [] := by
  obtain ⟨k, rfl⟩ : ∃ k, own = k + 16 := ⟨own - 16, by omega⟩
  rfl
theorem ve_lo_big {own : Nat} (h : 16 ≤ own) : ve_lo own = [] := by
  obtain ⟨k, rfl⟩ : ∃ k, own = k + 16 := ⟨own - 16, by omega⟩
  rfl
theorem ve_ckf_at {own idx : Nat} {q : Nat × Nat × Bool} (h : ve_as (ve_fo own) idx = some q) : ve_ckf own (idx, q) = true := by
  have h1 := ve_as_mem _ _ _ h
  by_cases ho : own < 16
  · exact List.all_eq_true.mp (List.all_eq_true.mp ve_ckf_ok own (List.mem_range.mpr ho)) _ h1
  · rw [ve_fo_big (by omega)] at h1
    cases h1
theorem ve_ckn_at {own idx : Nat} {q : Nat × Nat} (h : ve_as (ve_no own) idx = some q) : ve_ckn own (idx, q) = true := by
  have h1 := ve_as_mem _ _ _ h
  by_cases ho : own < 16
  · exact List.all_eq_true.mp (List.all_eq_true.mp ve_ckn_ok own (List.mem_range.mpr ho)) _ h1
  · rw [ve_no_big (by omega)] at h1
    cases h1
theorem ve_ckl_at {own idx : Nat} {v : Int64} (h : ve_as (ve_lo own) idx = some v) : ve_gd (.constantLong (ve_nm own) idx v) = true := by
  have h1 := ve_as_mem _ _ _ h
  by_cases ho : own < 16
  · exact List.all_eq_true.mp (List.all_eq_true.mp ve_ckl_ok own (List.mem_range.mpr ho)) _ h1
  · rw [ve_lo_big (by omega)] at h1
    cases h1
theorem ve_ckc_at {kd : Nat} (h1 : 1 ≤ kd) (h2 : kd ≤ 12) : ve_ckc kd = true :=
  List.all_eq_true.mp ve_ckc_ok kd (by
    have : (List.range 13).drop 1 = [1, 2, 3, 4, 5, 6, 7, 8, 9, 10, 11, 12] := by decide
    rw [this]
    simp only [List.mem_cons, List.not_mem_nil, or_false]
    omega)
theorem ve_ckc_lay {kd : Nat} (h1 : 1 ≤ kd) (h2 : kd ≤ 12) : ∀ w ∈ u_ws (ve_nm kd) (ve_tt kd) (ve_nf kd), w ∈ lw_tbl ∧ goodWord w = true := by
  intro w hw
  obtain ⟨k, hk, rfl⟩ := List.mem_map.mp hw
  have h := ve_ckc_at h1 h2
  unfold ve_ckc at h
  simp only [Bool.and_eq_true] at h
  have h3 := List.all_eq_true.mp h.1 k hk
  simp only [Bool.and_eq_true, ve_gd, decide_eq_true_eq] at h3
  exact h3.1
theorem ve_ckc_ty {kd : Nat} (h1 : 1 ≤ kd) (h2 : kd ≤ 12) : ∀ k, k < ve_nf kd → parseFieldDescriptor (ve_tt kd k).2.2.1 = some (ve_ty kd k) ∧ ve_tcb ((ve_tc kd).getD k 9) (ve_ty kd k) = true := by
  intro k hk
  have h := ve_ckc_at h1 h2
  unfold ve_ckc at h
  simp only [Bool.and_eq_true] at h
  have h3 := List.all_eq_true.mp h.1 k (List.mem_range.mpr hk)
  simp only [Bool.and_eq_true, ve_gd, decide_eq_true_eq] at h3
  exact h3.2
theorem ve_ckc_nm {kd : Nat} (h1 : 1 ≤ kd) (h2 : kd ≤ 12) : ∀ a, a < ve_nf kd → ∀ b, b < ve_nf kd → a ≠ b → (ve_tt kd a).2.1 ≠ (ve_tt kd b).2.1 := by
  intro a ha b hb hab
  have h := ve_ckc_at h1 h2
  unfold ve_ckc at h
  simp only [Bool.and_eq_true] at h
  have h3 := List.all_eq_true.mp (List.all_eq_true.mp h.2 a (List.mem_range.mpr ha)) b (List.mem_range.mpr hb)
  simp only [Bool.or_eq_true, decide_eq_true_eq] at h3
  exact h3.resolve_left hab
/-- what is fixed in a run: the script's address, where new cells begin, the script's cell, the heap at the start, classes, slots, array classes -/
abbrev ve_G : Type := (Nat × Nat) × Cell × Heap × (Nat → ClassId) × (Nat → Nat → Nat) × (Nat → ClassId)
abbrev ve_ga (G : ve_G) : Nat → Nat := ve_ad G.1.1 G.1.2
abbrev ve_gB (G : ve_G) : Nat := G.1.2
abbrev ve_gs0 (G : ve_G) : Cell := G.2.1
abbrev ve_gH (G : ve_G) : Heap := G.2.2.1
abbrev ve_gC (G : ve_G) : Nat → ClassId := G.2.2.2.1
abbrev ve_gI (G : ve_G) : Nat → Nat → Nat := G.2.2.2.2.1
abbrev ve_gY (G : ve_G) : Nat → ClassId := G.2.2.2.2.2
def ve_aty : Nat → Option FieldType
  | 20 => some .int
  | 21 => some .long
  | 22 => some .byte
  | 23 => some .boolean
  | 24 => some (.object "RuleHouse$Rule")
  | _ => none
def ve_ok (G : ve_G) (s : State) : Prop :=
  (∀ w ∈ lw_tbl, goodWord w = true → ∀ a : Array Value, w.before a s = true) ∧
  (∀ kd, 1 ≤ kd → kd ≤ 12 → u_Kn s (ve_nm kd) (ve_tt kd) (ve_nf kd) (ve_gC G kd) (ve_gI G kd)) ∧
  (∀ (kd : Nat) (ty : FieldType), ve_aty kd = some ty → ArrOfT s (ve_gY G kd) ty ∧ s.vm.findClass ("[" ++ ty.toString) = some (ve_gY G kd)) ∧
  (∃ kA : Class, s.vm.classes[ve_gY G 24]? = some kA ∧ kA.kind = .array (ve_gC G 7) (.object "RuleHouse$Rule")) ∧
  s.isArrayOf (ve_gs0 G) .int ∧ (ve_gs0 G).vm ≠ .unknown
theorem ve_ok.moved {G : ve_G} {s U : State} (h : ve_ok G s) (hW : s.WarmedH U.vm) : ve_ok G U := by
  obtain ⟨h1, h2, h3, ⟨kA, h4, h5⟩, h6, h7⟩ := h
  have hal := hW.alike
  refine ⟨fun w hw hg a => word_at (args := #[]) hW (good_of_word hg) (h1 w hw hg #[]), fun kd a b => u_Kn_moved hal (h2 kd a b), fun kd ty hk => ⟨arrOfT_moved hal (h3 kd ty hk).1, by rw [hal.findClass]; exact (h3 kd ty hk).2⟩, ?_, State.isArrayOf_alike hal h6, h7⟩
  obtain ⟨k', hk', he⟩ := hal.2.2 _ _ h4
  exact ⟨k', hk', by rw [he]; exact h5⟩
theorem ve_ok.w {G : ve_G} {s : State} (h : ve_ok G s) {w : Cond} (hw : ve_gd w = true) (a : Array Value) : w.before a s = true := by
  unfold ve_gd at hw
  simp only [Bool.and_eq_true, decide_eq_true_eq] at hw
  exact h.1 w hw.1 hw.2 a
/-- the value that a slot holds -/
def ve_vl (ad : Nat → Nat) (h : ve_H) (a t j : Nat) : Value := match t with
  | 1 => .long (ve_L h a j)
  | 2 => va_rf ((ve_R h a j).map ad)
  | _ => .int (ve_I h a j)
def ve_tk (kd j : Nat) : Nat := bif Nat.ble kd 12 then (ve_tc kd).getD j 9 else bif kd.beq 21 then 1 else bif kd.beq 24 then 2 else 0
def ve_cell (G : ve_G) (H : Heap) (q kd z : Nat) (V : Nat → Value) : Prop :=
  (1 ≤ kd ∧ kd ≤ 12 ∧ t_OB q (ve_gC G kd) (ve_nf kd) (ve_gI G kd) H V) ∨
  (20 ≤ kd ∧ kd ≤ 24 ∧ H[q]? = some (arrV (ve_gY G kd) z V)) ∨
  (kd = 30 ∧ H[q]? = some (ve_gs0 G) ∧ (ve_gs0 G).slots.size = z ∧ ∀ j, j < z → (ve_gs0 G).slots[j]? = some (V j))
def ve_P (G : ve_G) (h : ve_H) (H : Heap) : Prop :=
  G.1.1 < G.1.2 ∧ 1 ≤ ve_n h ∧ H.size = ve_ga G (ve_n h) ∧ ve_k h 0 = 30 ∧
  (∀ a, ve_k h a ≠ 0 → a < ve_n h ∧ ve_cell G H (ve_ga G a) (ve_k h a) (ve_z h a) (fun j => ve_vl (ve_ga G) h a (ve_tk (ve_k h a) j) j)) ∧
  (∀ a, ve_n h ≤ a → ∀ j, ve_I h a j = 0 ∧ ve_L h a j = 0 ∧ ve_R h a j = none) ∧
  (∀ q, q < ve_gB G → H[q]? = (ve_gH G)[q]?) ∧ (∀ a, ve_n h ≤ a → ve_k h a = 0)
theorem ve_cell.kept {G : ve_G} {H H' : Heap} {q kd z : Nat} {V V' : Nat → Value} (h : ve_cell G H q kd z V) (hq : H'[q]? = H[q]?) (hv : ∀ j, V' j = V j) : ve_cell G H' q kd z V' := by
  have e : V' = V := funext hv
  subst e
  rcases h with ⟨a, b, h⟩ | ⟨a, b, h⟩ | ⟨a, h, c⟩
  · exact Or.inl ⟨a, b, h.kept hq⟩
  · exact Or.inr (Or.inl ⟨a, b, by rw [hq]; exact h⟩)
  · exact Or.inr (Or.inr ⟨a, by rw [hq]; exact h, c⟩)
/-- one slot of one cell changes -/
def ve_up (ad : Nat → Nat) (h h' : ve_H) (a k t : Nat) (v : Value) : Prop :=
  ve_n h' = ve_n h ∧ ve_u h' = ve_u h ∧ (∀ b, ve_k h' b = ve_k h b) ∧ (∀ b, ve_z h' b = ve_z h b) ∧
  (∀ b j t', ¬ (b = a ∧ j = k) → ve_vl ad h' b t' j = ve_vl ad h b t' j) ∧ ve_vl ad h' a t k = v ∧
  (∀ b j, b ≠ a → ve_I h' b j = ve_I h b j ∧ ve_L h' b j = ve_L h b j ∧ ve_R h' b j = ve_R h b j)
theorem ve_up_I {ad : Nat → Nat} (h : ve_H) (a k t : Nat) (v : Int32) (ht : t ≠ 1 ∧ t ≠ 2) : ve_up ad h (ve_sI h a k v) a k t (.int v) := by
  refine ⟨rfl, rfl, fun _ => rfl, fun _ => rfl, fun b j t' hn => ?_, ?_, fun b j hb => ⟨by rw [ve_I_sI, if_neg (fun q => hb q.1)], rfl, rfl⟩⟩
  · unfold ve_vl
    split
    · rfl
    · rfl
    · rw [ve_I_sI, if_neg hn]
  · unfold ve_vl
    split
    · exact absurd rfl ht.1
    · exact absurd rfl ht.2
    · rw [ve_I_sI, if_pos ⟨rfl, rfl⟩]
theorem ve_up_L {ad : Nat → Nat} (h : ve_H) (a k : Nat) (v : Int64) : ve_up ad h (ve_sL h a k v) a k 1 (.long v) := by
  refine ⟨rfl, rfl, fun _ => rfl, fun _ => rfl, fun b j t' hn => ?_, ?_, fun b j hb => ⟨rfl, by rw [ve_L_sL, if_neg (fun q => hb q.1)], rfl⟩⟩
  · unfold ve_vl
    split
    · rw [ve_L_sL, if_neg hn]
    · rfl
    · rfl
  · show Value.long (ve_L (ve_sL h a k v) a k) = _
    rw [ve_L_sL, if_pos ⟨rfl, rfl⟩]
theorem ve_up_R {ad : Nat → Nat} (h : ve_H) (a k b0 : Nat) : ve_up ad h (ve_sR h a k (some b0)) a k 2 (.ref (ad b0)) := by
  refine ⟨rfl, rfl, fun _ => rfl, fun _ => rfl, fun b j t' hn => ?_, ?_, fun b j hb => ⟨rfl, rfl, by rw [ve_R_sR, if_neg (fun q => hb q.1)]⟩⟩
  · unfold ve_vl
    split
    · rfl
    · rw [ve_R_sR, if_neg hn]
    · rfl
  · show va_rf ((ve_R (ve_sR h a k (some b0)) a k).map ad) = _
    rw [ve_R_sR, if_pos ⟨rfl, rfl⟩]
    rfl
theorem ve_P.up {G : ve_G} {h h' : ve_H} {H H' : Heap} {a k : Nat} {v : Value} (hP : ve_P G h H) (ha : ve_k h a ≠ 0) (hu : ve_up (ve_ga G) h h' a k (ve_tk (ve_k h a) k) v)
    (hc : ve_cell G H' (ve_ga G a) (ve_k h a) (ve_z h a) (updV (fun j => ve_vl (ve_ga G) h a (ve_tk (ve_k h a) j) j) k v)) (hz : H'.size = H.size) (ho : ∀ q, q ≠ ve_ga G a → H'[q]? = H[q]?) (h0 : a ≠ 0) : ve_P G h' H' := by
  obtain ⟨p1, p2, p3, p4, p5, p6, p7, p8⟩ := hP
  obtain ⟨u1, u2, u3, u4, u5, u6, u7⟩ := hu
  have hlt := (p5 a ha).1
  refine ⟨p1, by rw [u1]; exact p2, by rw [u1, hz]; exact p3, by rw [u3]; exact p4, fun b hb => ?_, fun b hb j => ?_, fun q hq => ?_, fun b hb => ?_⟩
  · rw [u3] at hb ⊢
    rw [u1, u4]
    refine ⟨(p5 b hb).1, ?_⟩
    by_cases hba : b = a
    · subst hba
      have e : (fun j => ve_vl (ve_ga G) h' b (ve_tk (ve_k h b) j) j) = updV (fun j => ve_vl (ve_ga G) h b (ve_tk (ve_k h b) j) j) k v := by
        funext j
        unfold updV
        by_cases hj : j = k
        · subst hj
          rw [if_pos rfl]
          exact u6
        · rw [if_neg hj]
          exact u5 b j _ (fun q => hj q.2)
      rw [e]
      exact hc
    · exact (p5 b hb).2.kept (ho _ (fun q => hba (ve_ad_inj p1 q))) (fun j => u5 b j _ (fun q => hba q.1))
  · rw [u1] at hb
    have hba : b ≠ a := by omega
    obtain ⟨e1, e2, e3⟩ := u7 b j hba
    rw [e1, e2, e3]
    exact p6 b hb j
  · rw [ho q ?_]
    · exact p7 q hq
    · intro e
      cases a with
      | zero => exact h0 rfl
      | succ n =>
        have e1 : q = G.1.2 + n := e
        have hq1 : q < G.1.2 := hq
        omega
  · rw [u1] at hb
    rw [u3]
    exact p8 b hb
theorem ve_ga_B {G : ve_G} {a : Nat} (h : a ≠ 0) : ve_gB G ≤ ve_ga G a := by
  cases a with
  | zero => exact absurd rfl h
  | succ n => exact Nat.le_add_right _ _
theorem ve_ga_S {G : ve_G} {n : Nat} (h : 1 ≤ n) : ve_ga G (n + 1) = ve_ga G n + 1 := by
  cases n with
  | zero => omega
  | succ n => rfl
/-- a new cell -/
theorem ve_P.new {G : ve_G} {h : ve_H} {H H' : Heap} {kd z : Nat} (hP : ve_P G h H) (hkd : kd ≠ 0)
    (hc : ve_cell G H' (ve_ga G (ve_n h)) kd z (fun j => ve_vl (ve_ga G) h (ve_n h) (ve_tk kd j) j)) (hz : H'.size = H.size + 1) (ho : ∀ q, q < H.size → H'[q]? = H[q]?) : ve_P G (ve_new h kd z) H' := by
  obtain ⟨p1, p2, p3, p4, p5, p6, p7, p8⟩ := hP
  have hB : ve_gB G ≤ H.size := by rw [p3]; exact ve_ga_B (by omega)
  refine ⟨p1, by rw [ve_n_new]; omega, by rw [ve_n_new, hz, p3, ve_ga_S p2], by rw [ve_k_new, if_neg (by omega)]; exact p4, fun b hb => ?_, fun b hb j => ?_, fun q hq => ?_, fun b hb => ?_⟩
  · rw [ve_k_new, ve_z_new, ve_n_new]
    rw [ve_k_new] at hb
    by_cases hbn : b = ve_n h
    · subst hbn
      rw [if_pos rfl, if_pos rfl]
      exact ⟨Nat.lt_succ_self _, hc⟩
    · rw [if_neg hbn] at hb ⊢
      rw [if_neg hbn]
      obtain ⟨q1, q2⟩ := p5 b hb
      refine ⟨by omega, q2.kept (ho _ ?_) (fun j => rfl)⟩
      rw [p3]
      cases b with
      | zero =>
        cases hn : ve_n h with
        | zero => omega
        | succ n => show G.1.1 < G.1.2 + n; omega
      | succ b' =>
        cases hn : ve_n h with
        | zero => omega
        | succ n => show G.1.2 + b' < G.1.2 + n; omega
  · rw [ve_n_new] at hb
    exact p6 b (by omega) j
  · rw [ho q (by omega)]
    exact p7 q hq
  · rw [ve_n_new] at hb
    rw [ve_k_new, if_neg (by omega)]
    exact p8 b (by omega)
