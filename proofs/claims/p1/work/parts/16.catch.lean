/-! An exception that a handler takes -/
set_option maxRecDepth 100000 in
theorem ve_hsk : ve_gs.all (fun g => g.all (fun r => r.2.2.2.2.2.2.1.all (fun q => r.2.2.2.2.1.beq 13 && (q.2.2.2.beq 13 || (q.2.2.2.beq 19 || q.2.2.2.beq 31))))) = true := by decide +kernel
set_option maxRecDepth 100000 in
theorem ve_hkw : [13, 19, 31].all (fun i => ve_gd (.classLink "RuleHouseLaw" i (ve_nm (ve_hk i)))) = true := by decide +kernel
theorem ve_hs_ok {mi : Nat} {q : Nat × Nat × Nat × Nat} (h : q ∈ ve_hs mi) : ve_ow mi = 13 ∧ (q.2.2.2 = 13 ∨ q.2.2.2 = 19 ∨ q.2.2.2 = 31) := by
  rcases ve_e_mem mi with ⟨g, hg, h1⟩ | h1
  · have h2 := List.all_eq_true.mp (List.all_eq_true.mp (List.all_eq_true.mp ve_hsk g hg) _ h1) q h
    simp only [Bool.and_eq_true, Bool.or_eq_true] at h2
    exact ⟨Nat.eq_of_beq_eq_true h2.1, h2.2.imp Nat.eq_of_beq_eq_true (fun z => z.imp Nat.eq_of_beq_eq_true Nat.eq_of_beq_eq_true)⟩
  · unfold ve_hs at h
    rw [h1] at h
    cases h
theorem ve_ble (a b : Nat) : Nat.ble a b = decide (a ≤ b) := by
  by_cases h : a ≤ b
  · rw [Nat.ble_eq_true_of_le h, decide_eq_true h]
  · rw [decide_eq_false h]
    cases hb : Nat.ble a b with
    | false => rfl
    | true => exact absurd (Nat.le_of_ble_eq_true hb) h
theorem ve_blt (a b : Nat) : Nat.blt a b = decide (a < b) := ve_ble (a + 1) b
section VEQ
variable {Q : Handler → Pre} {E : CtlPost} {e : Env} {d : Bool} {acts : List Action} {f : JFrame} {a : Addr}
theorem ve_goL {S : State} {x : ExceptionTableEntry} {t : List ExceptionTableEntry} {c : ClassId} {cell : Cell} (hx : covers x f.pc = true) (h0 : x.catchType ≠ 0)
    (hl : S.vm.ClassLinks e.platform f.method.cls x.catchType c) (hcell : S.heap[a]? = some cell) (hobj : ∀ k, cell.vm ≠ .statics k)
    (hk : ∃ k, S.vm.classes[cell.cls]? = some k) (hc : ∃ k, S.vm.classes[c]? = some k) :
    wp (findHandler.go f a (x :: t)) Q E e d acts S ↔ (if S.vm.assignable cell.cls c = true then Q (.found x.handlerPc) d acts (S.setVm (S.vm.noted f.method.cls x.catchType (.cls c))) else wp (findHandler.go f a t) Q E e d acts (S.setVm (S.vm.noted f.method.cls x.catchType (.cls c)))) := by
  simp only [covers] at hx
  obtain ⟨ha, ht⟩ := (resolveClass_links e.toSetting hl).op (op := VmOp.resolveClass f.method.cls x.catchType) rfl
  have hal : S.vm.Alike (S.vm.noted f.method.cls x.catchType (.cls c)) := (Vm.Alike.refl S.vm).noted _ _ _
  obtain ⟨k1, hk1⟩ := hk
  obtain ⟨k2, hk2⟩ := hc
  obtain ⟨k1', hk1', -⟩ := hal.2.2 _ _ hk1
  obtain ⟨k2', hk2', -⟩ := hal.2.2 _ _ hk2
  have hf : (S.vm.noted f.method.cls x.catchType (.cls c)).assignable cell.cls c = S.vm.assignable cell.cls c := by rw [hal.assignable]
  cases hfit : S.vm.assignable cell.cls c <;>
    (rw [hfit] at hf
     simp [findHandler.go, hx, h0, ha, ht, hcell, hobj, hk1', hk2', hf, VmOp.dirties, VmOp.acts])
end VEQ
section VER
variable {p : Program} {l : Launch} {e : Env} {R : Room} {s : State} {m : MethodId} {args : Array Value} {below : List Frame} {meth : Method} {c : Code} {T : State} {locs : List Loc} {cells slots : Nat}
variable {G : ve_G} {h : ve_H} {mi : Nat}
theorem ve_go {f : JFrame} {A : Addr} {cell : Cell} {kd hp : Nat} (hok : ve_ok G s) (hown : s.vm.findClass "RuleHouseLaw" = some f.method.cls) (hpl : e.platform.magicAccessors = ({} : Platform).magicAccessors) (hc1 : cell.cls = ve_gC G kd) (hc2 : cell.vm = .none) (hkd : 10 ≤ kd ∧ kd ≤ 12) :
    ∀ (hs : List ExceptionTableEntry) (S : State), s.WarmedH S.vm → S.heap[A]? = some cell → (∀ x ∈ hs, x.catchType = 13 ∨ x.catchType = 19 ∨ x.catchType = 31) → ve_hf (hs.map (fun x => (x.startPc, x.endPc, x.handlerPc, x.catchType))) f.pc kd = some hp →
      ∃ vm', s.WarmedH vm' ∧ ∀ (Q : Handler → Pre) (E : CtlPost) (d : Bool) (acts : List Action), wp (findHandler.go f A hs) Q E e d acts S ↔ Q (.found hp) d acts (S.setVm vm')
  | [], S, hW, hcell, hidx, hf => by cases hf
  | x :: t, S, hW, hcell, hidx, hf => by
    have hf : (bif Nat.ble x.startPc f.pc && Nat.blt f.pc x.endPc then (bif (ve_hk x.catchType).beq kd then some x.handlerPc else ve_hf (t.map (fun x => (x.startPc, x.endPc, x.handlerPc, x.catchType))) f.pc kd) else ve_hf (t.map (fun x => (x.startPc, x.endPc, x.handlerPc, x.catchType))) f.pc kd) = some hp := hf
    rw [ve_ble, ve_blt] at hf
    have hidt : ∀ y ∈ t, y.catchType = 13 ∨ y.catchType = 19 ∨ y.catchType = 31 := fun y hy => hidx y (List.mem_cons_of_mem _ hy)
    cases hcv : (decide (x.startPc ≤ f.pc) && decide (f.pc < x.endPc)) with
    | false =>
      rw [hcv] at hf
      obtain ⟨vm', h1, h2⟩ := ve_go hok hown hpl hc1 hc2 hkd t S hW hcell hidt hf
      refine ⟨vm', h1, fun Q E d acts => ?_⟩
      rw [W.findHandler_go_skip (show covers x f.pc = false from hcv)]
      exact h2 Q E d acts
    | true =>
      rw [hcv] at hf
      have hx0 := hidx x List.mem_cons_self
      have h0 : x.catchType ≠ 0 := by omega
      have hk10 : 10 ≤ ve_hk x.catchType ∧ ve_hk x.catchType ≤ 12 := by
        rcases hx0 with q | q | q <;> rw [q] <;> decide
      have hlink : (Cond.classLink "RuleHouseLaw" x.catchType (ve_nm (ve_hk x.catchType))).before #[] s = true := by
        refine hok.w ?_ #[]
        have h9 := List.all_eq_true.mp ve_hkw x.catchType (by simp only [List.mem_cons, List.not_mem_nil, or_false]; exact hx0)
        exact h9
      obtain ⟨c', hc', hcl⟩ := Cond.classLink_spec hown hlink e.platform hpl
      have hC := hok.2.1 (ve_hk x.catchType) (by omega) (by omega)
      cases hC.2.1.symm.trans hc'
      obtain ⟨hg₁, hwarm₁, hready₁⟩ := State.classEntry (e := e) hW hcl
      have hclS := hW.classLinks hcl
      have hal := hW.alike
      obtain ⟨kC, hkC, -⟩ := hC.2.2
      obtain ⟨kC', hkC', -⟩ := hal.2.2 _ _ hkC
      have hD := hok.2.1 kd (by omega) (by omega)
      obtain ⟨kD, hkD, -⟩ := hD.2.2
      obtain ⟨kD', hkD', -⟩ := hal.2.2 _ _ hkD
      have hasg : S.vm.assignable cell.cls (ve_gC G (ve_hk x.catchType)) = decide (kd = ve_hk x.catchType) := by
        rw [hal.assignable, hc1]
        exact hok.2.2.2.2.2.2.2.2.2 kd _ hkd.1 hkd.2 hk10.1 hk10.2
      have key := fun (Q : Handler → Pre) (E : CtlPost) (d : Bool) (acts : List Action) => ve_goL (Q := Q) (E := E) (e := e) (d := d) (acts := acts) (f := f) (a := A) (t := t) (x := x) (S := S) hcv h0 hclS hcell (fun k hk => by rw [hc2] at hk; cases hk) ⟨kD', by rw [hc1]; exact hkD'⟩ ⟨kC', hkC'⟩
      by_cases hkk : ve_hk x.catchType = kd
      · have hf : some x.handlerPc = some hp := by
          have hbt := ve_beq_t hkk
          rw [hbt] at hf
          exact hf
        refine ⟨_, hwarm₁, fun Q E d acts => ?_⟩
        rw [key Q E d acts, if_pos (by rw [hasg]; exact decide_eq_true hkk.symm), Option.some.inj hf]
      · have hf : ve_hf (t.map (fun x => (x.startPc, x.endPc, x.handlerPc, x.catchType))) f.pc kd = some hp := by
          have hbf := ve_beq_f hkk
          rw [hbf] at hf
          exact hf
        obtain ⟨vm', h1, h2⟩ := ve_go hok hown hpl hc1 hc2 hkd t (S.setVm (S.vm.noted f.method.cls x.catchType (.cls (ve_gC G (ve_hk x.catchType))))) hwarm₁ hcell hidt hf
        refine ⟨vm', h1, fun Q E d acts => ?_⟩
        rw [key Q E d acts, if_neg (by rw [hasg, decide_eq_false (fun q => hkk q.symm)]; decide)]
        exact h2 Q E d acts
theorem ve_catch (C : ve_C G p s m meth c mi) (X : Stand p l e R s m args below meth c T locs cells slots) (hP : ve_P G h T.heap) {g : JFrame} (hg : g.method = m) {a kd hp : Nat} (hk : ve_k h a = kd) (hkd : 10 ≤ kd ∧ kd ≤ 12) (hf : ve_hf (ve_hs mi) g.pc kd = some hp) :
    ∃ vm', Stand p l e R s m args below meth c (T.setVm vm') locs cells slots ∧ ∀ target, Steps p.tables e below ((T.setVm vm').setTop { g with pc := hp, stack := [.ref (ve_ga G a)] }) target → Steps p.tables e below ((T.setTop g).pushFrame (.throwing (ve_ga G a))) target := by
  obtain ⟨hx, hb, hml, hrt, hlk, hown, -, hex, hok⟩ := C
  have hpl : e.platform.magicAccessors = ({} : Platform).magicAccessors := by rw [X.admits.platform]
  obtain ⟨ha0, cell, q1, q2, q3, -⟩ := ve_ob hP hk (by omega) hkd.2
  have h13 : ve_ow mi = 13 := by
    cases hh : ve_hs mi with
    | nil => rw [hh] at hf; cases hf
    | cons q r => exact (ve_hs_ok (mi := mi) (q := q) (by rw [hh]; exact List.mem_cons_self)).1
  rw [h13] at hown
  have hidx : ∀ x ∈ c.exceptionTable.toList, x.catchType = 13 ∨ x.catchType = 19 ∨ x.catchType = 31 := by
    intro x hx1
    have h5 : (x.startPc, x.endPc, x.handlerPc, x.catchType) ∈ ve_hs mi := by
      rw [← hex]
      exact List.mem_map.mpr ⟨x, hx1, rfl⟩
    exact (ve_hs_ok h5).2
  rw [← hex] at hf
  subst hg
  obtain ⟨vm', hW', hfnd⟩ := ve_go (e := e) (f := g) (A := ve_ga G a) hok hown hpl q2 q3 hkd c.exceptionTable.toList ((T.setTop g).pushFrame (.throwing (ve_ga G a)))
    (by rw [Stand.throwing_vm]; exact X.warmed) (by rw [Stand.throwing_heap]; exact q1) hidx hf
  have hm : ((T.setTop g).pushFrame (.throwing (ve_ga G a))).vm.method? g.method = some meth := by rw [Stand.throwing_vm]; exact X.method'
  refine ⟨vm', X.noted hW', fun target hrest => ?_⟩
  have hh : At T g.method c below := X.here
  obtain ⟨hgo, hw⟩ := hh.throwing (ve_ga G a)
  refine Steps.head hgo hw ?_
  have hstep : (stepThrowing e ((T.setTop g).pushFrame (.throwing (ve_ga G a))) (ve_ga G a) (.java g :: T.frames.tail)).Is ((((T.setTop g).pushFrame (.throwing (ve_ga G a))).setVm vm').setFrames (.java { g with pc := hp, stack := [.ref (ve_ga G a)] } :: T.frames.tail)) [] := by
    simp only [stepThrowing, searchFrame, vmDo]
    generalize hr : Sem.go _ e false [] ((T.setTop g).pushFrame (.throwing (ve_ga G a))) = res
    obtain ⟨as, rfl, ha⟩ := Sem.eq_ok_of hr (a := Handler.found hp) (s' := ((T.setTop g).pushFrame (.throwing (ve_ga G a))).setVm vm') (acts' := []) (by simp [W.findHandler_eq hm X.code, hfnd _ _ _ _])
    exact ⟨rfl, ha⟩
  rw [stepThread_throwing (frames_entered hh.top _), hstep.1]
  obtain ⟨g₀, hg0⟩ := Option.isSome_iff_exists.mp hh.top
  obtain ⟨r, hr⟩ := State.topJava?_eq_some.mp hg0
  have hr' : (T.setVm vm').frames = .java g₀ :: r := hr
  rw [State.setTop_of_frames _ hr'] at hrest
  have e1 : ∀ (u : State) (F F' : List Frame), ((u.setFrames F).setVm vm').setFrames F' = (u.setVm vm').setFrames F' := by
    intro u F F'
    have h1 : (u.setFrames F).setVm vm' = (u.setVm vm').setFrames F := rfl
    rw [h1, State.setFrames_setFrames]
  rw [hr, List.tail_cons, State.pushFrame, e1, State.setTop_of_frames _ hr, e1]
  exact hrest
end VER
