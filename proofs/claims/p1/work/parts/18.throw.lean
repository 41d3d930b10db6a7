/-! The constructors of the exceptions -/
def ve_xn : List String := ["java/lang/RuntimeException", "java/lang/Exception"]
/-- the words that an exception's constructor rests on, but the call's own and the two statics -/
def ve_xa (X : String) : List Cond := Bundle.throwableAtoms ++ Bundle.chain0Atoms X ve_xn ++
  [.instantiable X 6, .castable X X, .selects X Bundle.tFill0 Bundle.tFill0, .selects X Bundle.tFill Bundle.tFill,
   .lays X Bundle.tN "cause" "Ljava/lang/Throwable;", .lays X Bundle.tN "stackTrace" Bundle.steD, .lays X Bundle.tN "suppressedExceptions" Bundle.listD, .lays X Bundle.tN "detailMessage" "Ljava/lang/String;",
   .fieldLink Bundle.tN 198 Bundle.tN "backtrace" "Ljava/lang/Object;", .lays Bundle.tN Bundle.tN "backtrace" "Ljava/lang/Object;", .lays X Bundle.tN "backtrace" "Ljava/lang/Object;"]
def ve_ng : Cond → Bool
  | .declares _ => true
  | .castable _ _ => true
  | .laysStatic _ _ _ => true
  | _ => false
set_option maxRecDepth 100000 in
theorem ve_xa10 : (ve_xa "java/lang/IllegalArgumentException").all (fun w => decide (w ∈ lw_tbl) && (goodWord w || ve_ng w)) = true := by decide +kernel
set_option maxRecDepth 100000 in
theorem ve_xa11 : (ve_xa "java/lang/IllegalStateException").all (fun w => decide (w ∈ lw_tbl) && (goodWord w || ve_ng w)) = true := by decide +kernel
set_option maxRecDepth 100000 in
theorem ve_xa12 : (ve_xa "java/util/NoSuchElementException").all (fun w => decide (w ∈ lw_tbl) && (goodWord w || ve_ng w)) = true := by decide +kernel
theorem ve_xaa {cm : Nat} (h1 : 10 ≤ cm) (h2 : cm ≤ 12) : (ve_xa (ve_nm cm)).all (fun w => decide (w ∈ lw_tbl) && (goodWord w || ve_ng w)) = true := by
  have : cm = 10 ∨ cm = 11 ∨ cm = 12 := by omega
  rcases this with rfl | rfl | rfl
  · exact ve_xa10
  · exact ve_xa11
  · exact ve_xa12
/-- a static, seen from a later state -/
theorem ve_stat {s0 s : State} {a0 a : Array Value} (hW : s0.WarmedH s.vm) (hh : ∀ q, q < s0.heap.size → s.heap[q]? = s0.heap[q]?) {O f d : String} (hl : (Cond.laysStatic O f d).before a0 s0 = true) : (Cond.laysStatic O f d).before a s = true := by
  obtain ⟨c, k, i, fd, ad, cell, hc, hi, hst, ha, hcell, hs, hcls, hlt, hty⟩ := Cond.laysStatic_spec hl
  have hal := hW.alike
  obtain ⟨k', hi', hek⟩ := State.fieldFound?_setVm hal hi
  have hi2 : s.fieldFound? O f d = some (c, k', i, fd) := hi'
  have hlt2 : ad < s0.heap.size := (Array.getElem?_eq_some_iff.mp hcell).1
  exact Cond.laysStatic_of (s := s) (by rw [hal.findClass]; exact hc) hi2 hst (by rw [hek]; exact ha) (by rw [hh ad hlt2]; exact hcell) hs hcls hlt (by rw [hek]; exact hty)
theorem ve_isr {s0 s : State} {a0 a : Array Value} (hW : s0.WarmedH s.vm) (hh : ∀ q, q < s0.heap.size → s.heap[q]? = s0.heap[q]?) {O f d : String} (hl : (Cond.laysStatic O f d).before a0 s0 = true) (hr : (Cond.isRef (.static O f d)).before a0 s0 = true) : (Cond.isRef (.static O f d)).before a s = true := by
  obtain ⟨c, k, i, fd, ad, cell, hc, hi, hst, ha, hcell, hs, hcls, hlt, hty⟩ := Cond.laysStatic_spec hl
  have hal := hW.alike
  obtain ⟨k', hi', hek⟩ := State.fieldFound?_setVm hal hi
  have hi2 : s.fieldFound? O f d = some (c, k', i, fd) := hi'
  have hlt2 : ad < s0.heap.size := (Array.getElem?_eq_some_iff.mp hcell).1
  obtain ⟨u, hu⟩ := Cond.staticRefV hi hst ha hcell hs hr
  have ha2 : k'.statics = some ad := by rw [hek]; exact ha
  have hcell2 : s.heap[ad]? = some cell := by rw [hh ad hlt2]; exact hcell
  have he : (Term.static O f d).eval a s none [] s = some u.v := by
    rw [← hu]
    simp [Term.eval, State.fieldNamed?, hi2, hst, ha2, hcell2, hs]
  obtain ⟨v, hv⟩ := u
  simp only [Cond.before, Cond.holds, Cond.value]
  rw [he]
  cases v <;> simp [Value.isRef] at hv <;> rfl
section VEX
variable {l : Launch} {G : ve_G}
set_option maxHeartbeats 4000000 in
theorem ve_xh (hfl : l.flags = flags0) (a0 : Array Value) (hB : (ve_g0 G).heap.size = ve_gB G) (hw0 : ∀ w ∈ lw_tbl, w.before a0 (ve_g0 G) = true)
    (hu0 : (Cond.isRef (.static "java/lang/Throwable" "UNASSIGNED_STACK" "[Ljava/lang/StackTraceElement;")).before a0 (ve_g0 G) = true) (hs0 : (Cond.isRef (.static "java/lang/Throwable" "SUPPRESSED_SENTINEL" "Ljava/util/List;")).before a0 (ve_g0 G) = true) : ve_XH l G := by
  intro p e R s m args below meth c T locs cells slots mi d n0 u0 h pc ls idx cm np a r X C hP hR hls hco hk h10 h12 hwr hsB hdg
  obtain ⟨hx, hb, hml, hrt, hlk, hown, -, -, hok⟩ := C
  have htr : e.platform.stackTraces = false := Launch.traces_off hfl X.admits
  have howns : e.platform.frameOwnsMonitors = true := by rw [X.admits.platform]
  have hfin : e.platform.finalization = false := by rw [X.admits.platform]
  have hpl : e.platform.magicAccessors = ({} : Platform).magicAccessors := by rw [X.admits.platform]
  have hW0 : (ve_g0 G).WarmedH s.vm := hok.2.2.2.2.2.2.2.2.1
  have hh0 : ∀ q, q < (ve_g0 G).heap.size → s.heap[q]? = (ve_g0 G).heap[q]? := fun q hq => hsB q (by rw [← hB]; exact hq)
  have hall := ve_xaa h10 h12
  have aw : ∀ w ∈ ve_xa (ve_nm cm), w.before args s = true := by
    intro w hw
    have h1 := List.all_eq_true.mp hall w hw
    simp only [Bool.and_eq_true, Bool.or_eq_true, decide_eq_true_eq] at h1
    obtain ⟨h2, h3⟩ := h1
    rcases h3 with h3 | h3
    · exact hok.1 w h2 h3 args
    · cases w with
      | declares y => exact va_Nw.use rfl (va_Nw.warmD hW0 (va_Nw.of rfl (hw0 _ h2)))
      | castable x y => exact va_Nw.use rfl (va_Nw.warmC hW0 (va_Nw.of rfl (hw0 _ h2)))
      | laysStatic o f d => exact ve_stat hW0 hh0 (hw0 _ h2)
      | _ => cases h3
  have hU := ve_isr (a := args) hW0 hh0 (hw0 (.laysStatic "java/lang/Throwable" "UNASSIGNED_STACK" "[Ljava/lang/StackTraceElement;") (by decide +kernel)) hu0
  have hSn := ve_isr (a := args) hW0 hh0 (hw0 (.laysStatic "java/lang/Throwable" "SUPPRESSED_SENTINEL" "Ljava/util/List;") (by decide +kernel)) hs0
  have hcw := (ve_ckg_at hco).1
  have hlink : (Cond.methodLink (ve_nm (ve_ow mi)) idx (Bundle.init0 (ve_nm cm))).before args s = true := hok.1 _ (hcw _ (by show _ ∈ [_, _]; exact List.mem_cons_self)) rfl args
  have hfit : Bundle.fit (ve_nm cm) = true := by
    have : cm = 10 ∨ cm = 11 ∨ cm = 12 := by omega
    rcases this with rfl | rfl | rfl <;> decide +kernel
  have a' : ∀ x, x ∈ ve_xa (ve_nm cm) → x.holds args s none s [] = true := fun x hx => aw x hx
  obtain ⟨TC, Z, L, LZ, Y⟩ := ThrowableC.of_atoms (args := args) howns hfin hpl (fun x hx => aw x (by simp [ve_xa, hx]))
  obtain ⟨P1, Ps, hlen, L1, hL, hP1m, hlink1, hlinkP⟩ := Bundle.chain0 (args := args) hpl Y.init0 ve_xn (ve_nm cm) hfit (by decide +kernel) (fun x hx => aw x (by simp [ve_xa, hx]))
  have hKn := hok.2.1 cm (by omega) h12
  have hfound : s.vm.findClass (ve_nm cm) = some P1.m.cls := findClass_of_methodNamed hP1m
  have hCeq : ve_gC G cm = P1.m.cls := Option.some.inj (hKn.2.1.symm.trans hfound)
  obtain ⟨c1, kX, hc1, hkX, hord, -, -, hn6⟩ := Cond.instantiable_spec (a' (.instantiable (ve_nm cm) 6) (by simp [ve_xa]))
  cases Option.some.inj (hc1.symm.trans hfound)
  have hsel0 : selectMethod e.platform s.vm P1.m.cls TC.fill0 = .method TC.fill0 := by
    obtain ⟨c2, r2, m2, q1, q2, q3, q4, -⟩ := Cond.selects_spec (a' (.selects (ve_nm cm) Bundle.tFill0 Bundle.tFill0) (by simp [ve_xa]))
    cases Option.some.inj (q1.symm.trans hfound)
    cases Option.some.inj (q2.symm.trans (State.methodFound?_of_named Y.fill0 (by decide)))
    cases Option.some.inj (q3.symm.trans Y.fill0)
    rw [Launch.admits_selectMethod X.admits]; exact q4
  have hselF : selectMethod e.platform s.vm P1.m.cls TC.fill = .method TC.fill := by
    obtain ⟨c2, r2, m2, q1, q2, q3, q4, -⟩ := Cond.selects_spec (a' (.selects (ve_nm cm) Bundle.tFill Bundle.tFill) (by simp [ve_xa]))
    cases Option.some.inj (q1.symm.trans hfound)
    cases Option.some.inj (q2.symm.trans (State.methodFound?_of_named Y.fill (by decide)))
    cases Option.some.inj (q3.symm.trans Y.fill)
    rw [Launch.admits_selectMethod X.admits]; exact q4
  obtain ⟨cellS0, hcS0, hiss⟩ := Y.statics
  obtain ⟨u0', hu0'⟩ := Cond.staticRefV Y.unassigned L.unassignedStatic L.statics hcS0 hiss hU
  obtain ⟨sen, hsen⟩ := Cond.staticRefV Y.sentinel L.sentinelStatic L.statics hcS0 hiss hSn
  obtain ⟨ci198, i198, fB, hk198, hg198, ha198, hsB2, -, hnB, htB, hffB⟩ := Cond.ownField (t := .object "java/lang/Object") Y.found L.cls (by decide +kernel) (a' (.fieldLink Bundle.tN 198 Bundle.tN "backtrace" "Ljava/lang/Object;") (by simp [ve_xa])) (a' (.lays Bundle.tN Bundle.tN "backtrace" "Ljava/lang/Object;") (by simp [ve_xa])) e.platform hpl
  have hpc := hP.2.2.2.2.1 a (by omega)
  have hcx : ∃ cell : Cell, T.heap[ve_ga G a]? = some cell ∧ cell.cls = P1.m.cls ∧ cell.vm = .none ∧ cell.monitor = {} ∧ cell.slots.size = 6 ∧ cell.slots[ve_gI G cm 0]? = some .null ∧ ∀ j, j < ve_nf cm → cell.slots[ve_gI G cm j]? = some (ve_vl (ve_ga G) h a (ve_tk cm j) j) := by
    rw [hk] at hpc
    rcases hpc.2 with ⟨-, -, ⟨cell, q1, q2, q3, q4⟩, q5⟩ | ⟨x, -⟩ | ⟨x, -⟩
    · obtain ⟨cell', r1, r2, r3, r4⟩ := q5 h10
      cases q1.symm.trans r1
      exact ⟨cell, q1, by rw [q2, hCeq], q3, r2, r3, r4, q4⟩
    · omega
    · omega
  obtain ⟨cell, q1, q2, q3, q4, q5, q6, q7⟩ := hcx
  have ha0 : a ≠ 0 := (ve_ob hP hk (by omega) h12).1
  have hlt0 : TC.aS < (ve_g0 G).heap.size := by
    have hst0 := Y.statics
    obtain ⟨c9, k9, i9, f9, ad9, cell9, z1, z2, z3, z4, z5, z6, z7, z8, z9⟩ := Cond.laysStatic_spec (hw0 (.laysStatic "java/lang/Throwable" "UNASSIGNED_STACK" "[Ljava/lang/StackTraceElement;") (by decide +kernel))
    obtain ⟨k', hi', hek⟩ := State.fieldFound?_setVm hW0.alike z2
    have hi2 : s.fieldFound? "java/lang/Throwable" "UNASSIGNED_STACK" "[Ljava/lang/StackTraceElement;" = some (c9, k', i9, f9) := hi'
    have hyu : s.fieldFound? "java/lang/Throwable" "UNASSIGNED_STACK" "[Ljava/lang/StackTraceElement;" = some (TC.cT, TC.kT, TC.i13, TC.fUnassigned) := Y.unassigned
    have hkk : TC.kT = k' := by
      have := hyu.symm.trans hi2
      simp at this
      exact this.2.1
    have hst := L.statics
    rw [hkk, hek] at hst
    have : ad9 = TC.aS := Option.some.inj (z4.symm.trans hst)
    rw [← this]
    exact (Array.getElem?_eq_some_iff.mp z5).1
  have hcellS : T.heap[TC.aS]? = some cellS0 := by
    rw [hP.2.2.2.2.2.2.1 TC.aS (by rw [← hB]; exact hlt0)]
    rw [← hh0 TC.aS hlt0]
    exact hcS0
  have hknownS : cellS0.vm ≠ .unknown := by
    intro hu
    rw [hu] at hiss
    cases hiss
  have hneS : TC.aS ≠ ve_ga G a := by
    have := ve_ga_B (G := G) ha0
    intro q
    rw [hB] at hlt0
    exact absurd this (Nat.not_le.mpr (by rw [← q]; exact hlt0))
  obtain ⟨iM, hffM⟩ := Y.msg
  obtain ⟨tyC, dC, hdC, hdnC⟩ := Cond.laysAt hfound hkX Y.cause (a' (.lays (ve_nm cm) Bundle.tN "cause" "Ljava/lang/Throwable;") (by simp [ve_xa]))
  obtain ⟨tyS, dS, hdS, hdnS⟩ := Cond.laysAt hfound hkX Y.stack (a' (.lays (ve_nm cm) Bundle.tN "stackTrace" Bundle.steD) (by simp [ve_xa]))
  obtain ⟨tyP, dP, hdP, hdnP⟩ := Cond.laysAt hfound hkX Y.supp (a' (.lays (ve_nm cm) Bundle.tN "suppressedExceptions" Bundle.listD) (by simp [ve_xa]))
  obtain ⟨tyB, dB, hdB, hdnB⟩ := Cond.laysAt hfound hkX hffB (a' (.lays (ve_nm cm) Bundle.tN "backtrace" "Ljava/lang/Object;") (by simp [ve_xa]))
  have bC := Cond.laysApart hdB hdC hdnB hdnC (by rw [hnB, Y.causeName]; decide)
  have bS := Cond.laysApart hdB hdS hdnB hdnS (by rw [hnB, Y.stackName]; decide)
  have bP := Cond.laysApart hdB hdP hdnB hdnP (by rw [hnB, Y.suppName]; decide)
  have hfB : fB.slot = ve_gI G cm 0 := by
    have hn1 : ve_nf cm = 1 := by
      have : cm = 10 ∨ cm = 11 ∨ cm = 12 := by omega
      rcases this with q | q | q <;> rw [q] <;> rfl
    obtain ⟨cf, kf, fi, fd, hi, hsl⟩ := hKn.1 0 (by rw [hn1]; decide)
    have htt : ve_tt cm 0 = ("java/lang/Throwable", "backtrace", "Ljava/lang/Object;", false) := by
      have : cm = 10 ∨ cm = 11 ∨ cm = 12 := by omega
      rcases this with q | q | q <;> rw [q] <;> rfl
    rw [htt] at hi
    have h9 : some (cf, kf, fi, fd) = _ := hi.symm.trans hffB
    simp at h9
    rw [← hsl, h9.2.2.2]
  have tk : ∀ {f : Field} {v : Value}, kX.instanceTypes[f.slot]? = some f.type → fits f.type v = true → Takes s cell f v := by
    intro f v hty hv
    refine ⟨?_, ?_⟩
    · have := (Array.getElem?_eq_some_iff.mp hty).1
      rw [q5]
      omega
    · rw [q2, q3]
      simp [State.fitsSlot, State.slotType?, hkX, hord, hty, hv]
  have hskip : SkipFacts TC e.platform s (fun u => u) u0' ((preparedCellV TC.toThrowableT cell (ve_ga G a) u0' sen).withEntry T.cur) :=
    ⟨{ ci198 := ci198, i198 := i198, fBack := fB }, ⟨hk198, hg198, ha198, hsB2⟩, by
      have h9 : cell.slots[fB.slot]? = some .null := by rw [hfB]; exact q6
      simpa [preparedCellV, Cell.setSlot, Cell.withEntry, Array.getElem?_setIfInBounds, bC, bS, bP, bC.symm, bS.symm, bP.symm] using h9, fun _ _ => rfl⟩
  have hin : (Cond.instanceMethod (Bundle.init0 (ve_nm cm))).before args s = true := aw _ (by simp [ve_xa, Bundle.chain0Atoms, ve_xn, Bundle.passAtoms])
  have hcd : (Cond.code (Bundle.init0 (ve_nm cm)) Bundle.five 1 none).before args s = true := aw _ (by simp [ve_xa, Bundle.chain0Atoms, ve_xn, Bundle.passAtoms])
  have e9 := ve_wd_cat (ve_ga G) r
  obtain ⟨tm, methC, cdC, kC, vm₁, hnC, -, -, -, -, -, -, -, hW₁, st1⟩ := Steps.initCold (tb := p.tables) (e := e) (below := below) (s := s) (U := T) X.here hx X.warmed hpl hown (t := Bundle.init0 (ve_nm cm)) rfl rfl (Bundle.fit_spec hfit).2
    hlink hin (bytes := Bundle.five) (maxL := 1) hcd
    (f := F0 m pc ls ((Value.ref a :: r).map (ve_cv (ve_ga G)))) rfl (a := ve_ga G a) (rest := r.map (ve_cv (ve_ga G))) rfl (by rw [hb]; exact hdg)
  cases Option.some.inj (hnC.symm.trans hP1m)
  have X₁ := X.noted hW₁
  obtain ⟨vm₂, X₂, st2⟩ := X₁.ctorPlainOffV hx (g := F0 m pc ls (r.map (ve_cv (ve_ga G)))) rfl (by rw [hml]; exact hls) TC L Z LZ (P1 :: Ps)
    (fun P hP => by rcases List.mem_cons.mp hP with rfl | hP; exact L1; exact hL P hP) ⟨hlink1, hlinkP⟩ (u0 := u0') (sen := sen) (self := ve_ga G a) (cell := cell) (cellS := cellS0)
    q1 (fun _ hz => by rw [q3] at hz; cases hz) (fun hz => by rw [q3] at hz; cases hz) (by rw [q4]) (by rw [q4]) (by rw [q2]; exact hsel0) (by rw [q2]; exact hselF) hcellS hneS hknownS hu0' hsen
    (tk tyC (by rw [Y.causeType]; rfl)) (tk tyS (by rw [Y.stackType]; exact fits_refV_array _ u0')) (tk tyP (by rw [Y.suppType]; exact fits_refV_object _ sen)) Y.objLocals hskip htr [] (by rw [hb]; exact hdg)
    (by have := hR.1; simp only [List.length_cons, hlen, ve_xn, List.length_nil]; omega) (by
      have h9 := hR.2.2.2
      show 2 * 0 + ((r.map (ve_cv (ve_ga G))).map fun v => v.category).sum + (13 * (P1 :: Ps).length + 41) ≤ R.locals
      rw [e9]
      have h8 : (P1 :: Ps).length = 3 := by simp only [List.length_cons, hlen, ve_xn, List.length_nil]
      rw [h8]
      omega)
  refine ⟨_, _, X₂, ?_, ?_, fun target ht => st1 _ (fun acts => ?_)⟩
  · intro q hq
    rcases List.mem_append.mp hq with h5 | h5
    · exact Or.inl h5
    · refine Or.inr ?_
      have hbq : q.base = ve_ga G a := by
        simp only [List.mem_cons, List.not_mem_nil, or_false] at h5
        rcases h5 with rfl | rfl | rfl | rfl <;> rfl
      rw [hbq]
      exact ve_ga_B ha0
  · generalize hcN : (preparedCellV TC.toThrowableT cell (ve_ga G a) u0' sen).setSlot TC.fStack.slot u0'.v = cN
    have hl9 : ve_ga G a < T.heap.size := (Array.getElem?_eq_some_iff.mp q1).1
    have hheap : (((T.setVm vm₁).setVm vm₂).setCell (ve_ga G a) cN).heap = T.heap.setIfInBounds (ve_ga G a) cN := rfl
    rw [hheap]
    refine hP.cel (h' := h) (a := a) (by omega) ha0 rfl (fun _ => rfl) (fun _ => rfl) (fun _ _ _ => ⟨rfl, rfl, rfl⟩) ?_ (by simp) (fun q hq => by simp [Array.getElem?_setIfInBounds, Ne.symm hq])
    rw [hk]
    have hg9 : (T.heap.setIfInBounds (ve_ga G a) cN)[ve_ga G a]? = some cN := by rw [Array.getElem?_setIfInBounds, if_pos rfl, if_pos hl9]
    have hsl9 : cN.slots[ve_gI G cm 0]? = cell.slots[ve_gI G cm 0]? := by
      rw [← hcN, ← hfB]
      simp [preparedCellV, Cell.setSlot, Array.getElem?_setIfInBounds, bC, bS, bP, bC.symm, bS.symm, bP.symm]
    refine Or.inl ⟨by omega, h12, ⟨cN, hg9, ?_, ?_, fun j hj => ?_⟩, fun _ => ⟨cN, hg9, ?_, ?_, ?_⟩⟩
    · rw [← hcN, hCeq, ← q2]; rfl
    · rw [← hcN, ← q3]; rfl
    · have hn1 : ve_nf cm = 1 := by
        have : cm = 10 ∨ cm = 11 ∨ cm = 12 := by omega
        rcases this with q | q | q <;> rw [q] <;> rfl
      have hj0 : j = 0 := by omega
      subst hj0
      rw [hsl9]
      exact q7 0 hj
    · rw [← hcN, ← q4]; rfl
    · rw [← hcN, ← q5]
      simp [preparedCellV, Cell.setSlot]
    · rw [hsl9]; exact q6
  · rw [doInvoke_state]
    exact st2 _ ht
end VEX
