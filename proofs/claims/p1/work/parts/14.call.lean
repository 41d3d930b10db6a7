/-! Calls: into a method of the table and out of it again -/
theorem ve_weaken {tb : Tables} {e : Env} {mid below : List Frame} {a b : State} (h : Steps tb e (mid ++ below) a b) : Steps tb e below a b := by
  obtain ⟨n, hn, w⟩ := h
  exact ⟨n, hn, fun k hk => (w k hk).weaken⟩
theorem ve_en_in (ad : Nat → Nat) : ∀ (as : List Value) (n i off : Nat) (v : Value), (ve_en as n).getD i none = some v → (off + i, ve_cv ad v) ∈ lv_args off (as.map (ve_cv ad))
  | [], n, i, off, v, h => by
    have h : (List.replicate n (none : Option Value)).getD i none = some v := h
    rw [List.getD_eq_getElem?_getD, List.getElem?_replicate] at h
    split at h <;> cases h
  | w :: r, n, i, off, v, h => by
    have two : (some w :: none :: ve_en r (n - 2) : ve_V).getD i none = some v → w.category = 2 → (off + i, ve_cv ad v) ∈ lv_args off ((w :: r).map (ve_cv ad)) := by
      intro h hc
      have e : lv_args off ((w :: r).map (ve_cv ad)) = (off, ve_cv ad w) :: lv_args (off + 2) (r.map (ve_cv ad)) := by
        show (off, ve_cv ad w) :: lv_args (if (ve_cv ad w).category = 2 then off + 2 else off + 1) (r.map (ve_cv ad)) = _
        rw [ve_cv_cat, if_pos hc]
      rw [e]
      match i, h with
      | 0, h =>
        have h1 : w = v := Option.some.inj h
        rw [h1]
        exact List.mem_cons_self
      | 1, h => cases h
      | i + 2, h =>
        have h2 := ve_en_in ad r (n - 2) i (off + 2) v h
        have e2 : off + (i + 2) = off + 2 + i := by omega
        rw [e2]
        exact List.mem_cons_of_mem _ h2
    have one : (some w :: ve_en r (n - 1) : ve_V).getD i none = some v → ¬ w.category = 2 → (off + i, ve_cv ad v) ∈ lv_args off ((w :: r).map (ve_cv ad)) := by
      intro h hc
      have e : lv_args off ((w :: r).map (ve_cv ad)) = (off, ve_cv ad w) :: lv_args (off + 1) (r.map (ve_cv ad)) := by
        show (off, ve_cv ad w) :: lv_args (if (ve_cv ad w).category = 2 then off + 2 else off + 1) (r.map (ve_cv ad)) = _
        rw [ve_cv_cat, if_neg hc]
      rw [e]
      match i, h with
      | 0, h =>
        have h1 : w = v := Option.some.inj h
        rw [h1]
        exact List.mem_cons_self
      | i + 1, h =>
        have h2 := ve_en_in ad r (n - 1) i (off + 1) v h
        have e2 : off + (i + 1) = off + 1 + i := by omega
        rw [e2]
        exact List.mem_cons_of_mem _ h2
    cases w with
    | long x => exact two h rfl
    | double x => exact two h rfl
    | int x => exact one h (fun q => absurd (show (1 : Nat) = 2 from q) (by decide))
    | float x => exact one h (fun q => absurd (show (1 : Nat) = 2 from q) (by decide))
    | null => exact one h (fun q => absurd (show (1 : Nat) = 2 from q) (by decide))
    | ref x => exact one h (fun q => absurd (show (1 : Nat) = 2 from q) (by decide))
    | retAddr x => exact one h (fun q => absurd (show (1 : Nat) = 2 from q) (by decide))
theorem ve_sl_len (ad : Nat → Nat) : ∀ as : List Value, (lg_sl (as.map (ve_cv ad))).length = ve_wd as
  | [] => rfl
  | w :: r => by
    have h := ve_sl_len ad r
    unfold lg_sl at h ⊢
    rw [List.map_cons, List.flatMap_cons, List.length_append, h]
    show _ + ve_wd r = w.category + ve_wd r
    rw [ve_cv_cat]
    rcases lv_cat w with q | q <;> rw [q] <;> rfl
theorem ve_en_lr (ad : Nat → Nat) (as : List Value) {n : Nat} (h : ve_wd as ≤ n) : ve_lr ad n ((lg_sl (as.map (ve_cv ad)) ++ List.replicate (n - (lg_sl (as.map (ve_cv ad))).length) Slot.unset).toArray) (ve_en as n) := by
  have h1 := lv_entry (as.map (ve_cv ad)) (n := n) (by rw [ve_sl_len]; exact h)
  refine ⟨h1.1, h1.2.1, fun i v hv => ?_⟩
  have h2 := ve_en_in ad as n i 0 v hv
  rw [Nat.zero_add] at h2
  exact h1.2.2 _ h2
theorem ve_arith {x y d L : Nat} (h1 : x ≤ 20) (h2 : y ≤ 30) (h3 : 70 * (d + 1) + 12000 ≤ L) : 2 * 0 + x + (y + 11) + (70 * d + 12000) ≤ L := by
  have h4 : 70 * (d + 1) = 70 * d + 70 := Nat.mul_add 70 d 1
  rw [h4] at h3
  generalize 70 * d = k at h3 ⊢
  rw [Nat.mul_zero, Nat.zero_add]
  have a1 : x + (y + 11) ≤ 20 + (30 + 11) := Nat.add_le_add h1 (Nat.add_le_add_right h2 11)
  have a2 : x + (y + 11) ≤ 70 := Nat.le_trans a1 (by decide)
  have a3 : x + (y + 11) + (k + 12000) ≤ 70 + (k + 12000) := Nat.add_le_add_right a2 _
  have a4 : 70 + (k + 12000) = k + 70 + 12000 := by rw [← Nat.add_assoc, Nat.add_comm 70 k]
  rw [a4] at a3
  exact Nat.le_trans a3 h3
section VEL
variable {p : Program} {l : Launch} {e : Env} {R : Room} {s : State} {m : MethodId} {args : Array Value} {below : List Frame} {meth : Method} {c : Code} {T : State} {locs : List Loc} {Q : State → Prop} {cells slots : Nat}
variable {pc : Nat} {ls : Array Slot} {G : ve_G} {h h' : ve_H} {n0 u0 d mi : Nat}
/-- a method of the table, found in a state -/
def ve_Mk (s : State) (cm : Nat) (mk : MethodId) (methk : Method) (ck : Code) : Prop :=
  s.methodNamed? (ve_yy cm) = some mk ∧ s.vm.method? mk = some methk ∧ methk.code = some ck ∧ ck.code = ve_cc cm ∧ ck.maxLocals = ve_ml cm ∧ methk.sig.returnType = ve_rt cm ∧ methk.locks = false ∧
  ck.exceptionTable.toList.map (fun x => (x.startPc, x.endPc, x.handlerPc, x.catchType)) = ve_hs cm ∧ parseMethodDescriptor (ve_yy cm).desc = some methk.sig
theorem ve_mk_of (hok : ve_ok G s) {cm : Nat} (h1 : (ve_yy cm).name ≠ "law") (h2 : (ve_yy cm).name ≠ "") : ∃ mk methk ck, ve_Mk s cm mk methk ck := by
  have hw : ve_word (ve_e cm) ∈ lw_tbl := List.mem_append_right _ (ve_e_word h1 h2)
  cases hh : ve_hs cm with
  | nil =>
    have e : ve_word (ve_e cm) = .code (ve_yy cm) (ve_cc cm) (ve_ml cm) (ve_rt cm) := by
      unfold ve_word
      have : (ve_e cm).2.2.2.2.2.2.1 = [] := hh
      rw [this]
      rfl
    rw [e] at hw
    have hc := hok.1 _ hw rfl #[]
    obtain ⟨mk, hn⟩ := Cond.code_named hc
    obtain ⟨methk, ck, a1, a2, a3, a4, a5, a6, a7, a8⟩ := Cond.code_spec hn hc
    refine ⟨mk, methk, ck, hn, a1, a2, a3, a4, a5, a6, ?_, a8⟩
    rw [hh]
    have : ck.exceptionTable = #[] := by simpa using a7
    rw [this]
    rfl
  | cons q r =>
    have e : ve_word (ve_e cm) = .codeWith (ve_yy cm) (ve_cc cm) (ve_ml cm) (ve_rt cm) (ve_hs cm) := by
      unfold ve_word
      have h9 : (ve_e cm).2.2.2.2.2.2.1 = q :: r := hh
      split
      · rename_i h8
        rw [h8] at h9
        cases h9
      · rfl
    rw [e] at hw
    have hc := hok.1 _ hw rfl #[]
    obtain ⟨mk, methk, ck, a0, a1, a2, a3, a4, a5, a6, a7, a8⟩ := Cond.codeWith_spec hc
    exact ⟨mk, methk, ck, a0, a1, a2, a3, a4, a6, a7, hh ▸ a5, a8⟩
theorem ve_eok_of {cm : Nat} (h2 : (ve_yy cm).name ≠ "") : (ve_yy cm).cls = ve_nm (ve_ow cm) ∧ (ve_ini cm = true → (ve_yy cm).name = "<init>") ∧ plainFor (ve_yy cm) = true ∧ ((ve_yy cm).cls ≠ "java/lang/invoke/MethodHandle" ∧ (ve_yy cm).cls ≠ "java/lang/invoke/VarHandle") ∧ ve_ml cm ≤ 30 ∧ 1 ≤ ve_ow cm ∧ ve_ow cm ≤ 15 := by
  have h := ve_e_eok h2
  unfold ve_eok at h
  simp only [Bool.and_eq_true, decide_eq_true_eq] at h
  obtain ⟨a1, a2, a3, a4, a5, a6, a7, a8⟩ := h
  exact ⟨a1, a2, a3, ⟨a4, a5⟩, Nat.le_of_ble_eq_true a6, Nat.le_of_ble_eq_true a7, Nat.le_of_ble_eq_true a8⟩
set_option maxRecDepth 20000 in
/-- in: the callee's own walk begins; out: the walk of the caller goes on -/
theorem ve_into (C : ve_C G p s m meth c mi) (X : Stand p l e R s m args below meth c T locs (ve_n h - n0) (ve_u h - u0)) (hP : ve_P G h T.heap) (hlo : ∀ q ∈ locs, ve_gB G ≤ q.base) (hR : ve_rm R (d + 1) n0 u0) (hbd : n0 ≤ ve_n h ∧ u0 ≤ ve_u h ∧ ve_n h ≤ 600003 ∧ ve_u h ≤ 7302232)
    (hls : ls.size = ve_ml mi) {cm : Nat} (hne : (ve_yy cm).name ≠ "") {mk : MethodId} {methk : Method} {ck : Code} (hM : ve_Mk s cm mk methk ck) {ig : Instr} (hdg : decode (ve_cc mi) pc = .ok (ig, 3)) {as rest : List Value} (hwa : ve_wd as ≤ ve_ml cm) (hwr : ve_wd rest ≤ 20) {o : ve_O}
    (body : ∀ (R' : Room) (s' : State) (below' : List Frame) (ls' : Array Slot), ve_C G p s' mk methk ck cm → ve_rm R' d (ve_n h) (ve_u h) → ve_lr (ve_ga G) (ve_ml cm) ls' (ve_en as (ve_ml cm)) → s'.heap = T.heap →
      W p l e R' s' mk (as.map (ve_cv (ve_ga G))).toArray below' methk ck T.heap [] 0 0 (ve_Z below' s' G (ve_n h) (ve_u h) o h') (F0 mk 0 ls' [])) :
    ∃ (T' : State) (locs' : List Loc), Stand p l e R s m args below meth c T' locs' (ve_n h' - n0) (ve_u h' - u0) ∧ (∀ q ∈ locs', ve_gB G ≤ q.base) ∧ ve_P G h' T'.heap ∧ (n0 ≤ ve_n h' ∧ u0 ≤ ve_u h' ∧ ve_n h' ≤ 600003 ∧ ve_u h' ≤ 7302232) ∧
      ∀ acts, Steps p.tables e below (doInvoke e (T.setTop (F0 m pc ls (rest.map (ve_cv (ve_ga G))))) acts mk (as.map (ve_cv (ve_ga G))).toArray).1
        (match o with
         | .inl v => T'.setTop (F0 m (pc + 3) ls ((v.toList ++ rest).map (ve_cv (ve_ga G))))
         | .inr a => (T'.setTop (F0 m pc ls (rest.map (ve_cv (ve_ga G))))).pushFrame (.throwing (ve_ga G a))) := by
  obtain ⟨hx, hb, hml, hrt, hlk, hown, -, -, hok⟩ := C
  obtain ⟨k1, k2, k3, k4, k5, k6, k7, k8, k9⟩ := hM
  obtain ⟨y1, y2, y3, y4, y5, -, -⟩ := ve_eok_of hne
  have hmk1 : T.vm.method? mk = some methk := by rw [X.warmed.alike.method?]; exact k2
  have hpk : T.plainMethod mk := by
    have h1 : s.plainMethod mk := State.plainMethod.of_named y3 k1 k2
    intro k hk
    obtain ⟨k0, hk0, -⟩ := className_of_methodNamed k1
    obtain ⟨k', hk', he⟩ := X.warmed.alike.2.2 _ _ hk0
    have h3 := h1 k0 hk0
    cases hk.symm.trans hk'
    rw [he]
    exact h3
  have e9 := ve_wd_cat (ve_ga G) rest
  obtain ⟨r1, r2, r3, r4⟩ := hR
  generalize hg : F0 m pc ls (rest.map (ve_cv (ve_ga G))) = g
  have hgm : g.method = m := by rw [← hg]
  have hdg' : decode c.code g.pc = .ok (ig, 3) := by rw [← hg, hb]; exact hdg
  obtain ⟨Y, hin⟩ := X.into (g := g) hgm (by rw [← hg, hml]; exact hls) hdg' (as.map (ve_cv (ve_ga G))).toArray (R' := { frames := d + 40, cells := 600003 - ve_n h, slots := 7302232 - ve_u h, locals := 70 * d + 12000 }) hmk1 k3 k7 hpk
    (by show d + 40 + 1 ≤ R.frames; omega) (by
      rw [← hg]
      show 2 * 0 + ((rest.map (ve_cv (ve_ga G))).map fun v => v.category).sum + (ck.maxLocals + 11) + (70 * d + 12000) ≤ R.locals
      rw [k5]
      have hsum : ((rest.map (ve_cv (ve_ga G))).map fun v => v.category).sum ≤ 20 := by rw [e9]; exact hwr
      exact ve_arith hsum y5 r4) (by show ve_n h - n0 + (600003 - ve_n h) ≤ R.cells; omega) (by show ve_u h - u0 + (7302232 - ve_u h) ≤ R.slots; omega)
  have hWc : s.WarmedH (T.calling g mk (as.map (ve_cv (ve_ga G))).toArray).vm := X.warmed
  have hCk : ve_C G p (T.calling g mk (as.map (ve_cv (ve_ga G))).toArray) mk methk ck cm := by
    refine ⟨hx, k4, k5, k6, k7, ?_, fun q => ?_, k8, hok.moved hWc⟩
    · rw [hWc.alike.findClass, ← y1]
      exact findClass_of_methodNamed k1
    · rw [(name_of_methodNamed k1 k2).1]
      exact y2 q
  have hb2 := body { frames := d + 40, cells := 600003 - ve_n h, slots := 7302232 - ve_u h, locals := 70 * d + 12000 } _ (.java g :: below) _ hCk ⟨Nat.le_refl _, rfl, rfl, Nat.le_refl _⟩ (ve_en_lr (ve_ga G) as hwa) rfl
  have hef : entryFrame mk (as.map (ve_cv (ve_ga G))).toArray ck.maxLocals = F0 mk 0 ((lg_sl (as.map (ve_cv (ve_ga G))) ++ List.replicate (ve_ml cm - (lg_sl (as.map (ve_cv (ve_ga G)))).length) Slot.unset).toArray) [] := by rw [k5, lg_entry_eq]
  obtain ⟨t, hst, z1, z2, z3, z4, z5, L, z6, z7⟩ := hb2 ((T.setTop g).pushFrame (.java (entryFrame mk (as.map (ve_cv (ve_ga G))).toArray ck.maxLocals))) (by simp [State.pushFrame, State.setFrames, State.setTop, State.modifyTopJava]) Y
  have hin2 : ∀ acts, Steps p.tables e below (doInvoke e (T.setTop g) acts mk (as.map (ve_cv (ve_ga G))).toArray).1 t := by
    intro acts
    rw [hin acts]
    refine ve_weaken (mid := [.java g]) ?_
    rw [← hef] at hst
    exact hst
  cases o with
  | inl v =>
    obtain ⟨T', X', hW', -, ht⟩ := X.outOf hgm hdg' z2 z3 z7
    have hT' : T'.heap = t.heap := by rw [ht]; rfl
    refine ⟨T', locs ++ L, ?_, ?_, by rw [hT']; exact z4, ⟨by omega, by omega, z5.2.2.1, z5.2.2.2⟩, fun acts => ?_⟩
    · have e1 : ve_n h - n0 + (ve_n h' - ve_n h) = ve_n h' - n0 := by omega
      have e2 : ve_u h - u0 + (ve_u h' - ve_u h) = ve_u h' - u0 := by omega
      rw [e1, e2] at X'
      exact X'
    · intro q hq
      rcases List.mem_append.mp hq with h5 | h5
      · exact hlo q h5
      · exact z6 q h5
    · have h9 := hin2 acts
      rw [ht] at h9
      subst hg
      have e3 : ((v.map (ve_cv (ve_ga G))).toList ++ (rest.map (ve_cv (ve_ga G)))) = (v.toList ++ rest).map (ve_cv (ve_ga G)) := by
        cases v <;> rfl
      rw [e3] at h9
      exact h9
  | inr a =>
    obtain ⟨T', X', hW', -, ht⟩ := X.outOfThrown hgm z2 z3 z7
    have hT' : T'.heap = t.heap := by
      rw [ht]
      exact (Stand.throwing_heap T' g (ve_ga G a)).symm
    refine ⟨T', locs ++ L, ?_, ?_, by rw [hT']; exact z4, ⟨by omega, by omega, z5.2.2.1, z5.2.2.2⟩, fun acts => ?_⟩
    · have e1 : ve_n h - n0 + (ve_n h' - ve_n h) = ve_n h' - n0 := by omega
      have e2 : ve_u h - u0 + (ve_u h' - ve_u h) = ve_u h' - u0 := by omega
      rw [e1, e2] at X'
      exact X'
    · intro q hq
      rcases List.mem_append.mp hq with h5 | h5
      · exact hlo q h5
      · exact z6 q h5
    · have h9 := hin2 acts
      rw [ht] at h9
      subst hg
      exact h9
end VEL
