/-! The small machine's instructions on the heap, in the JVM's machine -/
/-- the room that a method has, d calls deep, when n0 cells and u0 slots have been made -/
def ve_rm (R : Room) (d n0 u0 : Nat) : Prop := d + 40 ≤ R.frames ∧ R.cells = 600003 - n0 ∧ R.slots = 7302232 - u0 ∧ 70 * d + 12000 ≤ R.locals
section VEH
variable {p : Program} {l : Launch} {e : Env} {R : Room} {s : State} {m : MethodId} {args : Array Value} {below : List Frame} {meth : Method} {c : Code} {H : Heap} {locs : List Loc} {cells slots : Nat} {Q : State → Prop}
variable {cc : ByteArray} {pc : Nat} {ls : Array Slot} {rest : List Value} {G : ve_G} {own : Nat} {h : ve_H}
theorem ve_lts (hok : ve_ok G s) {kd : Nat} (h1 : 1 ≤ kd) (h2 : kd ≤ 12) (args : Array Value) : ∀ w ∈ u_ws (ve_nm kd) (ve_tt kd) (ve_nf kd), w.before args s = true :=
  fun w hw => hok.1 w (ve_ckc_lay h1 h2 w hw).1 (ve_ckc_lay h1 h2 w hw).2 args
theorem ve_tk_x {kd k : Nat} (h : kd ≤ 12) : ve_tk kd k = (ve_tcx kd).getD k 9 := by
  unfold ve_tk
  rw [Nat.ble_eq_true_of_le h]
  rfl
theorem ve_tk_o {kd k : Nat} (h : kd ≤ 9) : ve_tk kd k = (ve_tc kd).getD k 9 := by
  rw [ve_tk_x (by omega), ve_tcx9 h]
theorem ve_ob (hP : ve_P G h H) {a kd : Nat} (hk : ve_k h a = kd) (h1 : 1 ≤ kd) (h2 : kd ≤ 12) : a ≠ 0 ∧ t_OB (ve_ga G a) (ve_gC G kd) (ve_nf kd) (ve_gI G kd) H (fun j => ve_vl (ve_ga G) h a (ve_tk kd j) j) := by
  subst hk
  refine ⟨fun q => ?_, ?_⟩
  · have := hP.2.2.2.1
    rw [q] at h2
    omega
  · rcases (hP.2.2.2.2.1 a (by omega)).2 with ⟨-, -, x, -⟩ | ⟨x, -⟩ | ⟨x, -⟩
    · exact x
    · omega
    · omega
theorem ve_ar (hP : ve_P G h H) {a kd : Nat} (hk : ve_k h a = kd) (h1 : 20 ≤ kd) (h2 : kd ≤ 24) : a ≠ 0 ∧ H[ve_ga G a]? = some (arrV (ve_gY G kd) (ve_z h a) (fun j => ve_vl (ve_ga G) h a (ve_tk kd j) j)) := by
  subst hk
  refine ⟨fun q => ?_, ?_⟩
  · have := hP.2.2.2.1
    rw [q] at h2
    omega
  · rcases (hP.2.2.2.2.1 a (by omega)).2 with ⟨-, x, -⟩ | ⟨-, -, x⟩ | ⟨x, -⟩
    · omega
    · exact x
    · omega
theorem ve_getc (hx : p.tables.exec = Jvm.exec) (hb : c.code = cc) (hok : ve_ok G s) (hown : s.vm.findClass (ve_nm own) = some m.cls) (hP : ve_P G h H) {a idx kd k : Nat} {fin : Bool}
    (hf : ve_as (ve_fo own) idx = some (kd, k, fin)) (hk : ve_k h a = kd) (hdg : decode cc pc = .ok (.getfield idx, 3))
    (kk : W p l e R s m args below meth c H locs cells slots Q (F0 m (pc + 3) ls (ve_vl (ve_ga G) h a ((ve_tc kd).getD k 9) k :: rest))) : W p l e R s m args below meth c H locs cells slots Q (F0 m pc ls (.ref (ve_ga G a) :: rest)) := by
  obtain ⟨c1, c2, c3, c4, c5⟩ := ve_ckf_at hf
  obtain ⟨-, cell, q1, q2, q3, q4⟩ := ve_ob hP hk c1 (by omega)
  obtain ⟨hS, hfc, kC, hkC, hkind⟩ := hok.2.1 kd c1 (by omega)
  obtain ⟨cf, kf, fi, f, hi, hsl⟩ := hS k c3
  have hi : s.fieldFound? (ve_dn kd) (ve_tt kd k).2.1 (ve_tt kd k).2.2.1 = some (cf, kf, fi, f) := hi
  have hst := (u_facts hfc hkC (u_lays (ve_lts hok c1 (by omega) args) (fun _ q => q) c3) hi).1
  rw [ve_dn9 c2] at hi
  refine W.getf hx hb hown (hok.1 _ c4 rfl args) hi hst q1 (by rw [q3]; exact fun q => by cases q) ?_ rfl rfl hdg kk
  rw [hsl, q4 k c3]
  show some (ve_vl (ve_ga G) h a (ve_tk kd k) k) = _
  rw [ve_tk_o (by omega)]
theorem ve_putc (hx : p.tables.exec = Jvm.exec) (hb : c.code = cc) (hok : ve_ok G s) (hown : s.vm.findClass (ve_nm own) = some m.cls) {ini : Bool} (hini : ini = true → meth.name = "<init>") (hP : ve_P G h H) (hlo : ∀ q ∈ locs, ve_gB G ≤ q.base)
    {h' : ve_H} {a idx kd k : Nat} {fin : Bool} {v : Value}
    (hf : ve_as (ve_fo own) idx = some (kd, k, fin)) (hk : ve_k h a = kd) (hfin : fin = false ∨ (ini = true ∧ own = kd)) (hn : narrow (ve_ty kd k) v = v) (hfit : fits (ve_ty kd k) v = true) (hu : ve_up (ve_ga G) h h' a k ((ve_tc kd).getD k 9) v)
    (hdg : decode cc pc = .ok (.putfield idx, 3))
    (kk : ∀ (H' : Heap) (locs' : List Loc), ve_P G h' H' → (∀ q ∈ locs', ve_gB G ≤ q.base) → W p l e R s m args below meth c H' locs' cells slots Q (F0 m (pc + 3) ls rest)) : W p l e R s m args below meth c H locs cells slots Q (F0 m pc ls (v :: .ref (ve_ga G a) :: rest)) := by
  obtain ⟨c1, c2, c3, c4, c5⟩ := ve_ckf_at hf
  have c2' : kd ≤ 12 := by omega
  obtain ⟨ha0, cell, q1, q2, q3, q4⟩ := ve_ob hP hk c1 c2'
  have hKn := hok.2.1 kd c1 c2'
  obtain ⟨hS, hfc, kC, hkC, hkind⟩ := id hKn
  obtain ⟨cf, kf, fi, f, hi, hsl⟩ := hS k c3
  have hlts := ve_lts hok c1 c2' args
  have hap : ∀ x y, x < ve_nf kd → y < ve_nf kd → x ≠ y → ve_gI G kd x ≠ ve_gI G kd y := by
    intro x y hx1 hy1 hne
    obtain ⟨_, _, _, fa, hia, ea⟩ := hS x hx1
    obtain ⟨_, _, _, fb, hib, eb⟩ := hS y hy1
    rw [← ea, ← eb]
    refine u_apart (u_lays hlts (fun _ q => q) hx1) (u_lays hlts (fun _ q => q) hy1) hia hib ?_
    rw [(State.fieldFound?_type hia (ve_ckc_ty c1 c2' x hx1).1).1, (State.fieldFound?_type hib (ve_ckc_ty c1 c2' y hy1).1).1]
    exact ve_ckc_nm c1 c2' x hx1 y hy1 hne
  have hlay := hlts _ (u_in_lay c3)
  have hst := (u_facts hfc hkC (u_lays hlts (fun _ q => q) c3) hi).1
  have hd := (ve_ckc_ty c1 c2' k c3).1
  have fin2 : ∀ (H' : Heap), H'[ve_ga G a]? = some (cell.setSlot f.slot v) → H'.size = H.size → (∀ q, q ≠ ve_ga G a → H'[q]? = H[q]?) → ve_P G h' H' := by
    intro H' e1 e2 e3
    rw [hsl] at e1
    subst hk
    refine hP.up (by omega) (k := k) (v := v) (by rw [ve_tk_o c2]; exact hu) (Or.inl ⟨c1, c2', ⟨_, e1, q2, q3, t_set q4 hap c3 v⟩, fun z => absurd z (by omega)⟩) e2 e3 ha0
  have hl2 : ∀ q ∈ locs ++ [⟨ve_ga G a, f.slot⟩], ve_gB G ≤ q.base := by
    intro q hq
    rcases List.mem_append.mp hq with h5 | h5
    · exact hlo q h5
    · rw [List.mem_singleton.mp h5]
      exact ve_ga_B ha0
  unfold u_lay at hlay
  rw [c5] at hlay
  cases fin with
  | false =>
    rw [if_neg (by decide)] at hlay
    have h6 := u_store hfc hkC hkind hlay hi hd hn hfit
    have hi : s.fieldFound? (ve_dn kd) (ve_tt kd k).2.1 (ve_tt kd k).2.2.1 = some (cf, kf, fi, f) := hi
    rw [ve_dn9 c2] at hi
    refine W.putK hx hb (f := f) ⟨hown, hok.1 _ c4 rfl args, ⟨_, _, _, hi⟩, hst⟩ (by rw [q2]; exact h6) q1 q3 (by rw [hsl]; exact k2_hasslot (q4 k c3)) rfl rfl hdg fun H' e1 e2 e3 => ?_
    exact kk H' _ (fin2 H' e1 e2 e3) hl2
  | true =>
    rw [if_pos rfl] at hlay
    obtain ⟨hi1, hi2⟩ := hfin.resolve_left (by decide)
    subst hi2
    have hcf : m.cls = cf := by
      obtain ⟨_, _, c', _, _, _, -, -, hf', -, -, -, hown2, -⟩ := Cond.laysFinal_spec hlay
      have e1 : c' = cf := by have := hi.symm.trans hf'; simp at this; exact this.1.symm
      have hown2 : s.vm.findClass (ve_dn own) = some c' := hown2
      rw [ve_dn9 c2] at hown2
      rw [← e1]
      exact Option.some.inj (hown.symm.trans hown2)
    have h6 := u_fits hfc hkC hkind (Or.inr hlay) hi hd hn hfit
    have hi : s.fieldFound? (ve_dn own) (ve_tt own k).2.1 (ve_tt own k).2.2.1 = some (cf, kf, fi, f) := hi
    rw [ve_dn9 c2] at hi
    refine W.putFinK hx hb hown (hok.1 _ c4 rfl args) hi hst hcf (hini hi1) (by rw [q2]; exact h6) q1 q3 (by rw [hsl]; exact k2_hasslot (q4 k c3)) rfl rfl hdg fun H' e1 e2 e3 => ?_
    exact kk H' _ (fin2 H' e1 e2 e3) hl2
theorem ve_put_b {fin ini : Bool} {kd k1 : Nat} (h : (k1.beq kd && (!fin || (ini && own.beq kd))) = true) : k1 = kd ∧ (fin = false ∨ (ini = true ∧ own = kd)) := by
  simp only [Bool.and_eq_true, Bool.or_eq_true, Bool.not_eq_true'] at h
  exact ⟨Nat.eq_of_beq_eq_true h.1, h.2.imp id (fun q => ⟨q.1, Nat.eq_of_beq_eq_true q.2⟩)⟩
/-- a cell of an array changes at one place -/
theorem ve_stP (hP : ve_P G h H) {a kd k : Nat} {h' : ve_H} {v : Value} (hk : ve_k h a = kd) (h1 : 20 ≤ kd) (h2 : kd ≤ 24) (hu : ve_up (ve_ga G) h h' a k (ve_tk kd k) v) {H' : Heap}
    (e1 : H'[ve_ga G a]? = some ((arrV (ve_gY G kd) (ve_z h a) (fun j => ve_vl (ve_ga G) h a (ve_tk kd j) j)).setSlot k v)) (e2 : H'.size = H.size) (e3 : ∀ q, q ≠ ve_ga G a → H'[q]? = H[q]?) : ve_P G h' H' := by
  have ha0 := (ve_ar hP hk h1 h2).1
  subst hk
  refine hP.up (by omega) (k := k) (v := v) hu (Or.inr (Or.inl ⟨h1, h2, ?_⟩)) e2 e3 ha0
  rw [e1, arrV_store]
theorem ve_lo1 (hlo : ∀ q ∈ locs, ve_gB G ≤ q.base) {a k : Nat} (ha : a ≠ 0) : ∀ q ∈ locs ++ [⟨ve_ga G a, k⟩], ve_gB G ≤ q.base := by
  intro q hq
  rcases List.mem_append.mp hq with h5 | h5
  · exact hlo q h5
  · rw [List.mem_singleton.mp h5]
    exact ve_ga_B ha
theorem ve_unk (cA : ClassId) (n : Nat) (f : Nat → Value) : (arrV cA n f).vm ≠ .unknown := fun q => by cases q
theorem ve_b01 {v : Int32} (h : v = 0 ∨ v = 1) : narrow .boolean (.int v) = .int v ∧ fits .boolean (.int v) = true := by
  rcases h with rfl | rfl <;> decide
end VEH
