/-! The invoking instruction itself -/
section VEN
variable {p : Program} {l : Launch} {e : Env} {R : Room} {s : State} {m : MethodId} {args : Array Value} {below : List Frame} {meth : Method} {c : Code} {T : State} {locs : List Loc} {cells slots : Nat}
variable {pc : Nat} {ls : Array Slot} {G : ve_G} {h : ve_H} {mi : Nat}
theorem ve_rc_ok {kd : Nat} {as : List Value} (h1 : ve_rc h kd as = true) : ∃ a r, as = .ref a :: r ∧ ve_k h a = kd := by
  cases as with
  | nil => cases h1
  | cons v r =>
    cases v with
    | ref a => exact ⟨a, r, rfl, Nat.eq_of_beq_eq_true h1⟩
    | _ => cases h1
theorem ve_inv (C : ve_C G p s m meth c mi) (X : Stand p l e R s m args below meth c T locs cells slots) (hP : ve_P G h T.heap) {i : Instr} {how cm np : Nat} (hco : ve_as (ve_co (ve_ow mi)) (ve_ci i).1 = some (how, cm, np)) (hhw : ve_hw (ve_ci i).2 how = true) (h3 : 3 ≤ how)
    (hdg : decode (ve_cc mi) pc = .ok (i, 3)) (hct : ve_ct i = 2) {as rest : List Value} (hlen : as.length = np) (hrc : (how = 4 ∨ how = 14) ∨ ve_rc h (ve_ow cm) as = true) :
    ∃ (mk : MethodId) (methk : Method) (ck : Code) (vm' : Vm), ve_Mk s cm mk methk ck ∧ Stand p l e R s m args below meth c (T.setVm vm') locs cells slots ∧
      ∀ target, (∀ acts, Steps p.tables e below (doInvoke e ((T.setVm vm').setTop (F0 m pc ls (rest.map (ve_cv (ve_ga G))))) acts mk (as.map (ve_cv (ve_ga G))).toArray).1 target) →
        Steps p.tables e below (T.setTop (F0 m pc ls ((as.reverse ++ rest).map (ve_cv (ve_ga G))))) target := by
  obtain ⟨hx, hb, hml, hrt, hlk, hown, -, -, hok⟩ := C
  obtain ⟨cw, cx⟩ := ve_ckg_at hco
  obtain ⟨n1, n2, n3, n4⟩ := cx h3
  obtain ⟨y1, y2, y3, y4, y5, y6, y7⟩ := ve_eok_of n2
  obtain ⟨mk, methk, ck, hM⟩ := ve_mk_of hok n1 n2
  obtain ⟨k1, k2, k3, k4, k5, k6, k7, k8, k9⟩ := id hM
  have hpar : ∀ q, np - (bif how.beq 4 || how.beq 14 then 0 else 1) = q → q = methk.sig.parameters.length := by
    intro q hq
    rw [k9] at n3
    rw [← hq]
    exact (Option.some.inj n3).symm
  have hst : (as.reverse ++ rest).map (ve_cv (ve_ga G)) = (as.map (ve_cv (ve_ga G))).reverse ++ rest.map (ve_cv (ve_ga G)) := by
    rw [List.map_append, List.map_reverse]
  obtain ⟨kP, hkP, hkPn⟩ := className_of_methodNamed k1
  have stat : (how = 4 ∨ how = 14) → i = .invokestatic (ve_ci i).1 := by
    intro q
    cases i <;> first | rfl | (exfalso; rcases q with rfl | rfl <;> exact Bool.false_ne_true hhw)
  have spec : (how = 5 ∨ how = 15) → i = .invokespecial (ve_ci i).1 := by
    intro q
    cases i <;> first | rfl | (exfalso; rcases q with rfl | rfl <;> exact Bool.false_ne_true hhw)
  have virt : how = 3 → i = .invokevirtual (ve_ci i).1 := by
    intro q
    cases i <;> first | rfl | (exfalso; subst q; exact Bool.false_ne_true hhw)
  generalize hidx : (ve_ci i).1 = idx at *
  have hhow : how = 3 ∨ how = 4 ∨ how = 5 ∨ how = 14 ∨ how = 15 := by
    unfold ve_hw at hhw
    split at hhw
    · omega
    · omega
    · omega
    · exact Or.inl rfl
    · exact Or.inr (Or.inl rfl)
    · exact Or.inr (Or.inr (Or.inl rfl))
    · exact Or.inr (Or.inr (Or.inr (Or.inl rfl)))
    · exact Or.inr (Or.inr (Or.inr (Or.inr rfl)))
    · cases hhw
  rcases hhow with rfl | rfl | rfl | rfl | rfl
  · -- virtual
    obtain ⟨a, r, rfl, hka⟩ := ve_rc_ok (hrc.resolve_left (by omega))
    have hl : (Cond.methodLink (ve_nm (ve_ow mi)) idx (ve_yy cm)).before args s = true := hok.1 _ (cw _ (by simp [ve_cws])) rfl args
    have hin : (Cond.instanceMethod (ve_yy cm)).before args s = true := hok.1 _ (cw _ (by simp [ve_cws])) rfl args
    have hse : (Cond.selects (ve_yy cm).cls (ve_yy cm) (ve_yy cm)).before args s = true := hok.1 _ (cw _ (by simp [ve_cws])) rfl args
    have hob : ∃ cell : Cell, T.heap[ve_ga G a]? = some cell ∧ cell.cls = ve_gC G (ve_ow cm) ∧ cell.vm = .none := by
      rcases (hP.2.2.2.2.1 a (by omega)).2 with ⟨-, -, ⟨cell, q1, q2, q3, -⟩, -⟩ | ⟨x, -⟩ | ⟨x, -⟩
      · exact ⟨cell, q1, by rw [q2, hka], q3⟩
      · omega
      · omega
    obtain ⟨cell, q1, q2, q3⟩ := hob
    have hle : ve_ow cm ≤ 12 := by
      rcases (hP.2.2.2.2.1 a (by omega)).2 with ⟨-, x, -⟩ | ⟨x, -⟩ | ⟨x, -⟩
      · omega
      · omega
      · omega
    have hcls : s.vm.findClass (ve_yy cm).cls = some cell.cls := by
      rw [q2, y1]
      exact (hok.2.1 (ve_ow cm) y6 hle).2.1
    obtain ⟨mk', methM, hnamed, hmethM, hstM, habM⟩ := Cond.instanceMethod_spec hin
    cases k1.symm.trans hnamed
    cases k2.symm.trans hmethM
    obtain ⟨c2, r2, m2, w1, w2, w3, w4, kQ, hkQ, hkQi⟩ := Cond.selects_spec hse
    cases hcls.symm.trans w1
    cases (State.methodFound?_of_named k1 y4).symm.trans w2
    cases k1.symm.trans w3
    have hselP : selectMethod e.platform s.vm cell.cls mk = .method mk := by rw [Launch.admits_selectMethod X.admits]; exact w4
    have hdg2 : decode c.code (F0 m pc ls (((Value.ref a :: r).reverse ++ rest).map (ve_cv (ve_ga G)))).pc = .ok (.invokevirtual idx, 3) := by
      rw [hb, ← virt rfl]
      exact hdg
    obtain ⟨vm₁, X₁, hstep₁⟩ := X.invokevirtual hx hown hl k1 k2 hstM hkQ hkQi y4 (a := ve_ga G a) (cell := cell) q1 (fun z hz => by rw [q3] at hz; cases hz) hselP k2 habM hkQ hkQi (g := F0 m pc ls (((Value.ref a :: r).reverse ++ rest).map (ve_cv (ve_ga G)))) rfl (argsL := r.map (ve_cv (ve_ga G))) (rest := rest.map (ve_cv (ve_ga G)))
      (by rw [List.length_map]; exact hpar _ (by rw [← hlen]; rfl)) (by rw [hst, List.map_cons, List.reverse_cons, List.append_assoc]; rfl) hdg2
    exact ⟨mk, methk, ck, vm₁, hM, X₁, fun target ht => hstep₁ target ht⟩
  · -- static
    have hl : (Cond.methodLink (ve_nm (ve_ow mi)) idx (ve_yy cm)).before args s = true := hok.1 _ (cw _ (by simp [ve_cws])) rfl args
    have hsa : (Cond.static (ve_yy cm)).before args s = true := hok.1 _ (cw _ (by simp [ve_cws])) rfl args
    have hini : (Cond.initialized (ve_yy cm).cls).before args s = true := hok.1 _ (cw _ (by simp [ve_cws])) rfl args
    have hstatic : methk.isStatic = true := Cond.static_spec k1 k2 hsa
    have hinitP : kP.init = .initialized := Cond.initialized_spec (findClass_of_methodNamed k1) hkP hini
    have hdg2 : decode c.code (F0 m pc ls ((as.reverse ++ rest).map (ve_cv (ve_ga G)))).pc = .ok (.invokestatic idx, 3) := by
      rw [hb, ← stat (Or.inl rfl)]
      exact hdg
    obtain ⟨vm₁, X₁, hstep₁⟩ := X.invokestatic hx hown hl k1 k2 hstatic hkP hinitP y4 (g := F0 m pc ls ((as.reverse ++ rest).map (ve_cv (ve_ga G)))) rfl (argsL := as.map (ve_cv (ve_ga G))) (rest := rest.map (ve_cv (ve_ga G)))
      (by rw [List.length_map, hlen]; exact hpar _ rfl) hst hdg2
    exact ⟨mk, methk, ck, vm₁, hM, X₁, fun target ht => hstep₁ target ht⟩
  · -- a constructor
    obtain ⟨a, r, rfl, hka⟩ := ve_rc_ok (hrc.resolve_left (by omega))
    obtain ⟨i1, i2, i3⟩ := n4 (Or.inl rfl)
    have hl : (Cond.methodLink (ve_nm (ve_ow mi)) idx (ve_yy cm)).before args s = true := hok.1 _ (cw _ (by simp [ve_cws])) rfl args
    have hin : (Cond.instanceMethod (ve_yy cm)).before args s = true := hok.1 _ (cw _ (by simp [ve_cws])) rfl args
    have hcode : (Cond.code (ve_yy cm) (ve_cc cm) (ve_ml cm) none).before args s = true := by
      have hw : ve_word (ve_e cm) ∈ lw_tbl := List.mem_append_right _ (ve_e_word n1 n2)
      have e9 : ve_word (ve_e cm) = .code (ve_yy cm) (ve_cc cm) (ve_ml cm) none := by
        unfold ve_word
        have h8 : (ve_e cm).2.2.2.2.2.2.1 = [] := i3
        have h7 : (ve_e cm).2.2.2.1 = none := i2
        rw [h8, h7]
        rfl
      rw [e9] at hw
      exact hok.1 _ hw rfl args
    have hpl : e.platform.magicAccessors = ({} : Platform).magicAccessors := by rw [X.admits.platform]
    have hdg2 : decode c.code (F0 m pc ls (((Value.ref a :: r).reverse ++ rest).map (ve_cv (ve_ga G)))).pc = .ok (.invokespecial idx, 3) := by
      rw [hb, ← spec (Or.inl rfl)]
      exact hdg
    obtain ⟨mk', methM, cM, kQ, vm₁, hnamed, hmethM, hcodeM, -, hlocalsM, -, hkQ, -, hW₁, hstep₁⟩ := Steps.initColdArgs (e := e) X.here hx X.warmed hpl hown i1 y4 hl hin hcode (f := F0 m pc ls (((Value.ref a :: r).reverse ++ rest).map (ve_cv (ve_ga G)))) rfl (a := ve_ga G a) (argsL := r.map (ve_cv (ve_ga G))) (rest := rest.map (ve_cv (ve_ga G)))
      (fun sig hsig => by rw [List.length_map]; rw [k9] at hsig; cases hsig; exact hpar _ (by rw [← hlen]; rfl)) (by rw [hst, List.map_cons, List.reverse_cons, List.append_assoc]; rfl) hdg2
    cases k1.symm.trans hnamed
    exact ⟨mk, methk, ck, vm₁, hM, X.noted hW₁, fun target ht => hstep₁ target ht⟩
  · -- static, of a nest mate
    have hl : (Cond.methodLinkNest (ve_nm (ve_ow mi)) idx (ve_yy cm) "RuleHouse").before args s = true := va_Nw.use rfl (hok.2.2.2.2.2.2.2.1 _ _ _ (cw _ (by simp [ve_cws])))
    have hsa : (Cond.static (ve_yy cm)).before args s = true := hok.1 _ (cw _ (by simp [ve_cws])) rfl args
    have hini : (Cond.initialized (ve_yy cm).cls).before args s = true := hok.1 _ (cw _ (by simp [ve_cws])) rfl args
    have hstatic : methk.isStatic = true := Cond.static_spec k1 k2 hsa
    have hinitP : kP.init = .initialized := Cond.initialized_spec (findClass_of_methodNamed k1) hkP hini
    have hdg2 : decode c.code (F0 m pc ls ((as.reverse ++ rest).map (ve_cv (ve_ga G)))).pc = .ok (.invokestatic idx, 3) := by
      rw [hb, ← stat (Or.inr rfl)]
      exact hdg
    obtain ⟨vm₁, X₁, hstep₁⟩ := X.invokestaticNest hx hown hl k1 k2 hstatic hkP hinitP y4 (g := F0 m pc ls ((as.reverse ++ rest).map (ve_cv (ve_ga G)))) rfl (argsL := as.map (ve_cv (ve_ga G))) (rest := rest.map (ve_cv (ve_ga G)))
      (by rw [List.length_map, hlen]; exact hpar _ rfl) hst hdg2
    exact ⟨mk, methk, ck, vm₁, hM, X₁, fun target ht => hstep₁ target ht⟩
  · -- a constructor of a nest mate
    obtain ⟨a, r, rfl, hka⟩ := ve_rc_ok (hrc.resolve_left (by omega))
    obtain ⟨i1, i2, i3⟩ := n4 (Or.inr rfl)
    have hl : (Cond.methodLinkNest (ve_nm (ve_ow mi)) idx (ve_yy cm) "RuleHouse").before args s = true := va_Nw.use rfl (hok.2.2.2.2.2.2.2.1 _ _ _ (cw _ (by simp [ve_cws])))
    have hin : (Cond.instanceMethod (ve_yy cm)).before args s = true := hok.1 _ (cw _ (by simp [ve_cws])) rfl args
    have hcode : (Cond.code (ve_yy cm) (ve_cc cm) (ve_ml cm) none).before args s = true := by
      have hw : ve_word (ve_e cm) ∈ lw_tbl := List.mem_append_right _ (ve_e_word n1 n2)
      have e9 : ve_word (ve_e cm) = .code (ve_yy cm) (ve_cc cm) (ve_ml cm) none := by
        unfold ve_word
        have h8 : (ve_e cm).2.2.2.2.2.2.1 = [] := i3
        have h7 : (ve_e cm).2.2.2.1 = none := i2
        rw [h8, h7]
        rfl
      rw [e9] at hw
      exact hok.1 _ hw rfl args
    have hpl : e.platform.magicAccessors = ({} : Platform).magicAccessors := by rw [X.admits.platform]
    have hdg2 : decode c.code (F0 m pc ls (((Value.ref a :: r).reverse ++ rest).map (ve_cv (ve_ga G)))).pc = .ok (.invokespecial idx, 3) := by
      rw [hb, ← spec (Or.inr rfl)]
      exact hdg
    obtain ⟨mk', methM, cM, kQ, vm₁, hnamed, hmethM, hcodeM, -, hlocalsM, -, hkQ, -, hW₁, hstep₁⟩ := Steps.initColdArgsNest (e := e) X.here hx X.warmed hpl hown i1 y4 hl hin hcode (f := F0 m pc ls (((Value.ref a :: r).reverse ++ rest).map (ve_cv (ve_ga G)))) rfl (a := ve_ga G a) (argsL := r.map (ve_cv (ve_ga G))) (rest := rest.map (ve_cv (ve_ga G)))
      (fun sig hsig => by rw [List.length_map]; rw [k9] at hsig; cases hsig; exact hpar _ (by rw [← hlen]; rfl)) (by rw [hst, List.map_cons, List.reverse_cons, List.append_assoc]; rfl) hdg2
    cases k1.symm.trans hnamed
    exact ⟨mk, methk, ck, vm₁, hM, X.noted hW₁, fun target ht => hstep₁ target ht⟩
end VEN
