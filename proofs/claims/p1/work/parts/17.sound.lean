/-! THE SMALL MACHINE IS SOUND: what it computes, the JVM's machine computes -/
/-- what is asked of an exception's constructor (proved in a later part): it returns, the heap's picture stays -/
def ve_XH (l : Launch) (G : ve_G) : Prop := ∀ (p : Program) (e : Env) (R : Room) (s : State) (m : MethodId) (args : Array Value) (below : List Frame) (meth : Method) (c : Code) (T : State) (locs : List Loc) (cells slots mi d n0 u0 : Nat) (h : ve_H) (pc : Nat) (ls : Array Slot) (idx cm np a : Nat) (r : List Value),
  Stand p l e R s m args below meth c T locs cells slots → ve_C G p s m meth c mi → ve_P G h T.heap → ve_rm R d n0 u0 → ls.size = ve_ml mi → ve_as (ve_co (ve_ow mi)) idx = some (1, cm, np) → ve_k h a = cm → 10 ≤ cm → cm ≤ 12 → ve_wd r ≤ 20 → (∀ q, q < ve_gB G → s.heap[q]? = (ve_gH G)[q]?) → decode (ve_cc mi) pc = .ok (.invokespecial idx, 3) →
  ∃ (T' : State) (locs' : List Loc), Stand p l e R s m args below meth c T' locs' cells slots ∧ (∀ q ∈ locs', q ∈ locs ∨ ve_gB G ≤ q.base) ∧ ve_P G h T'.heap ∧
    ∀ target, Steps p.tables e below (T'.setTop (F0 m (pc + 3) ls (r.map (ve_cv (ve_ga G))))) target → Steps p.tables e below (T.setTop (F0 m pc ls ((Value.ref a :: r).map (ve_cv (ve_ga G))))) target
set_option maxRecDepth 100000 in
theorem ve_co1 : (List.range 16).all (fun own => (ve_co own).all (fun q => !(q.2.1.beq 1) || (Nat.ble 10 q.2.2.1 && Nat.ble q.2.2.1 12))) = true := by decide +kernel
theorem ve_co_big {own : Nat} (h : 16 ≤ own) : ve_co own = [] := by
  obtain ⟨k, rfl⟩ : ∃ k, own = k + 16 := ⟨own - 16, by omega⟩
  rfl
theorem ve_co1_at {own idx cm np : Nat} (h : ve_as (ve_co own) idx = some (1, cm, np)) : 10 ≤ cm ∧ cm ≤ 12 := by
  have h1 := ve_as_mem _ _ _ h
  by_cases ho : own < 16
  · have h2 := List.all_eq_true.mp (List.all_eq_true.mp ve_co1 own (List.mem_range.mpr ho)) _ h1
    have h3 : (Nat.ble 10 cm && Nat.ble cm 12) = true := h2
    simp only [Bool.and_eq_true] at h3
    exact ⟨Nat.le_of_ble_eq_true h3.1, Nat.le_of_ble_eq_true h3.2⟩
  · rw [ve_co_big (by omega)] at h1
    cases h1
theorem ve_len {i : Instr} {len : Nat} (h : ve_lnb i len = true) (h3 : ve_ct i ≠ 3) : len = ve_ln i := by
  cases i
  case tableswitch => exact absurd rfl h3
  case lookupswitch => exact absurd rfl h3
  all_goals exact Nat.eq_of_beq_eq_true h
theorem ve_ct0 {i : Instr} (h : ve_ct i = 0) : ve_ln i = 1 := by
  have hb := ve_beq_t h
  cases i
  case ireturn => rfl
  case lreturn => rfl
  case return_ => rfl
  all_goals exact absurd (show false = true from hb) Bool.false_ne_true
theorem ve_ct1 {i : Instr} (h : ve_ct i = 1) : i = .athrow := by
  have hb := ve_beq_t h
  cases i
  case athrow => rfl
  all_goals exact absurd (show false = true from hb) Bool.false_ne_true
theorem ve_ct2 {i : Instr} (h : ve_ct i = 2) : ve_ln i = 3 := by
  have hb := ve_beq_t h
  cases i
  case invokevirtual => rfl
  case invokestatic => rfl
  case invokespecial => rfl
  all_goals exact absurd (show false = true from hb) Bool.false_ne_true
theorem ve_sp {i : Instr} (h : (ve_ci i).2 = 5) : i = .invokespecial (ve_ci i).1 := by
  have hb := ve_beq_t h
  cases i
  case invokespecial => rfl
  all_goals exact absurd (show false = true from hb) Bool.false_ne_true
theorem ve_sa {i : Instr} (h : (ve_ci i).2 = 4) : i = .invokestatic (ve_ci i).1 := by
  have hb := ve_beq_t h
  cases i
  case invokestatic => rfl
  all_goals exact absurd (show false = true from hb) Bool.false_ne_true
theorem ve_prO {x x' : ve_O} {y y' : ve_H} (h : some (x, y) = some (x', y')) : x = x' ∧ y = y' := ⟨congrArg Prod.fst (Option.some.inj h), congrArg Prod.snd (Option.some.inj h)⟩
theorem ve_hs_nil {c : Code} {mi : Nat} (hex : c.exceptionTable.toList.map (fun x => (x.startPc, x.endPc, x.handlerPc, x.catchType)) = ve_hs mi) (h : ve_hs mi = []) : c.exceptionTable.toList = [] := by
  rw [h] at hex
  exact List.map_eq_nil_iff.mp hex
theorem ve_hf_k {pc kd hp : Nat} : ∀ hs : List (Nat × Nat × Nat × Nat), (∀ q ∈ hs, q.2.2.2 = 13 ∨ q.2.2.2 = 19 ∨ q.2.2.2 = 31) → ve_hf hs pc kd = some hp → 10 ≤ kd ∧ kd ≤ 12
  | [], _, h => by cases h
  | q :: r, hq, h => by
    have h : (bif Nat.ble q.1 pc && Nat.blt pc q.2.1 then (bif (ve_hk q.2.2.2).beq kd then some q.2.2.1 else ve_hf r pc kd) else ve_hf r pc kd) = some hp := h
    have hr : ve_hf r pc kd = some hp → 10 ≤ kd ∧ kd ≤ 12 := fun z => ve_hf_k r (fun x hx => hq x (List.mem_cons_of_mem _ hx)) z
    cases hb : (Nat.ble q.1 pc && Nat.blt pc q.2.1) with
    | false => rw [hb] at h; exact hr h
    | true =>
      rw [hb] at h
      cases hk : (ve_hk q.2.2.2).beq kd with
      | false =>
        have h : (bif (ve_hk q.2.2.2).beq kd then some q.2.2.1 else ve_hf r pc kd) = some hp := h
        rw [hk] at h
        exact hr h
      | true =>
        rw [← Nat.eq_of_beq_eq_true hk]
        rcases hq q List.mem_cons_self with z | z | z <;> rw [z] <;> decide
section VES
variable {l : Launch} {G : ve_G}
set_option maxRecDepth 20000 in
set_option maxHeartbeats 4000000 in
theorem ve_sound (hX : ve_XH l G) : ∀ (n d mi pc : Nat) (lv : ve_V) (st : List Value) (h : ve_H) (o : ve_O) (h' : ve_H), ve_run n d mi pc lv st h = some (o, h') →
    ∀ (p : Program) (e : Env) (R : Room) (s : State) (m : MethodId) (args : Array Value) (below : List Frame) (meth : Method) (c : Code) (H : Heap) (locs : List Loc) (n0 u0 : Nat) (ls : Array Slot),
      ve_C G p s m meth c mi → ve_rm R d n0 u0 → ve_P G h H → (∀ q ∈ locs, ve_gB G ≤ q.base) → (n0 ≤ ve_n h ∧ u0 ≤ ve_u h ∧ ve_n h ≤ 600003 ∧ ve_u h ≤ 7302232) → ve_lr (ve_ga G) (ve_ml mi) ls lv → (∀ q, q < ve_gB G → s.heap[q]? = (ve_gH G)[q]?) →
      W p l e R s m args below meth c H locs (ve_n h - n0) (ve_u h - u0) (ve_Z below s G n0 u0 o h') (F0 m pc ls (st.map (ve_cv (ve_ga G)))) := by
  intro n
  induction n with
  | zero => intro d mi pc lv st h o h' hr; cases hr
  | succ n ih =>
    intro d mi pc lv st h o h' hr p e R s m args below meth c H locs n0 u0 ls C hR hP hlo hbd hl hsB
    unfold ve_run at hr
    split at hr
    · cases hr
    · rename_i i len hf
      have hdg := ve_f_ok hf
      have hln := ve_f_ln hf
      obtain ⟨hx, hb, hml, hrt, hlk, hown, hini, hex, hok⟩ := id C
      split at hr
      · -- a return
        rename_i hct
        have hlen := ve_len hln (by rw [hct]; decide)
        rw [ve_ct0 hct] at hlen
        subst hlen
        split at hr
        · rename_i v hv
          obtain ⟨rfl, rfl⟩ := ve_prO hr
          exact ve_rv_ok C hP hlo hbd hv hdg
        · cases hr
      · -- a throw
        rename_i hct
        have hlen := ve_len hln (by rw [hct]; decide)
        obtain rfl := ve_ct1 hct
        have hlen : len = 1 := hlen
        subst hlen
        split at hr
        · rename_i a r
          have hr9 := ve_cond_t hr
          clear hr
          obtain ⟨hc9, hr⟩ := hr9
          obtain ⟨rfl, rfl⟩ := ve_prO hr
          simp only [Bool.and_eq_true] at hc9
          have hnil : ve_hs mi = [] := List.isEmpty_iff.mp hc9.2.2
          have hex0 := ve_hs_nil hex hnil
          intro T hT Y
          obtain ⟨st1, a1, a2, a3, a4⟩ := Y.athrowLeaves hx (g := F0 m pc ls ((Value.ref a :: r).map (ve_cv (ve_ga G)))) rfl rfl rfl (by rw [hex0]; intro x hx1; cases hx1) (a := ve_ga G a) (rest := r.map (ve_cv (ve_ga G))) rfl (by rw [hb]; exact hdg) hlk
          exact ⟨_, st1, a1, a2, a3, by rw [← hT] at hP; exact hP, hbd, locs, hlo, a4⟩
        · cases hr
      · -- a call
        rename_i hct
        have hlen := ve_len hln (by rw [hct]; decide)
        rw [ve_ct2 hct] at hlen
        subst hlen
        split at hr
        · cases hr
        · rename_i how cm np hco
          have hr9 := ve_cond_t hr
          clear hr
          obtain ⟨hhw, hr⟩ := hr9
          split at hr
          · -- Object's constructor
            have hi := ve_sp (Nat.eq_of_beq_eq_true hhw)
            rw [hi] at hdg
            split at hr
            · rename_i a r
              have hr9 := ve_cond_t hr
              clear hr
              obtain ⟨hw9, hr⟩ := hr9
              exact ve_obj_ok C hP hlo hR hl.1 hco hdg (Nat.le_of_ble_eq_true hw9) (fun H' locs' hP' hlo' => ih d mi (pc + 3) lv r h o h' hr p e R s m args below meth c H' locs' n0 u0 ls C hR hP' hlo' hbd hl hsB)
            · cases hr
          · -- an exception's constructor
            have hi := ve_sp (Nat.eq_of_beq_eq_true hhw)
            rw [hi] at hdg
            split at hr
            · rename_i a r
              have hr9 := ve_cond_t hr
              clear hr
              obtain ⟨hw9, hr⟩ := hr9
              simp only [Bool.and_eq_true] at hw9
              obtain ⟨b1, b2⟩ := ve_co1_at hco
              intro T hT Y
              obtain ⟨T', locs', Y', hl1, hP1, hst⟩ := hX p e R s m args below meth c T locs _ _ mi d n0 u0 h pc ls _ cm np a r Y C (by rw [hT]; exact hP) hR hl.1 hco (Nat.eq_of_beq_eq_true hw9.1) b1 b2 (Nat.le_of_ble_eq_true hw9.2) hsB hdg
              obtain ⟨t, c1, c2⟩ := ih d mi (pc + 3) lv r h o h' hr p e R s m args below meth c T'.heap locs' n0 u0 ls C hR hP1 (fun q hq => (hl1 q hq).elim (hlo q) id) hbd hl hsB T' rfl Y'
              exact ⟨t, hst t c1, c2⟩
            · cases hr
          · -- a copy
            have hi := ve_sa (Nat.eq_of_beq_eq_true hhw)
            rw [hi] at hdg
            split at hr
            · rename_i k dp dst sp src r
              have hr9 := ve_cond_t hr
              clear hr
              obtain ⟨hw9, hr⟩ := hr9
              have hr9 := ve_ite_f hr
              clear hr
              obtain ⟨hin, hr⟩ := hr9
              simp only [Bool.and_eq_true] at hw9
              have ho := ve_cp_o h src sp.toNatClampNeg dst dp.toNatClampNeg h k.toNatClampNeg
              exact ve_copy_ok C hP hlo hR hl.1 hco hdg (Nat.eq_of_beq_eq_true hw9.1) (Nat.eq_of_beq_eq_true hw9.2.1) (Nat.le_of_ble_eq_true hw9.2.2) hin
                (fun H' locs' hP' hlo' => ih d mi (pc + 3) lv r _ o h' hr p e R s m args below meth c H' locs' n0 u0 ls C hR hP' hlo' (by rw [ho.1, ho.2.1]; exact hbd) hl hsB)
            · cases hr
          · -- a method of the table
            rename_i q0 q1 q2
            have hr9 := ve_cond_t hr
            clear hr
            obtain ⟨hw9, hr⟩ := hr9
            simp only [Bool.and_eq_true, Bool.or_eq_true] at hw9
            obtain ⟨w1, w2, w3, w4⟩ := hw9
            have w1 := Nat.eq_of_beq_eq_true w1
            have w2 := Nat.le_of_ble_eq_true w2
            have w3 := Nat.le_of_ble_eq_true w3
            have h3 : 3 ≤ how := by
              rcases Nat.lt_or_ge how 3 with q | q
              · exfalso
                have : how = 0 ∨ how = 1 ∨ how = 2 := by omega
                rcases this with q | q | q
                · exact q0 q
                · exact q1 q
                · exact q2 q
              · exact q
            have hsplit : (st.take np).reverse.reverse ++ st.drop np = st := by rw [List.reverse_reverse, List.take_append_drop]
            cases d with
            | zero => cases hr
            | succ d' =>
              dsimp only at hr
              intro T hT Y
              obtain ⟨mk, methk, ck, vm', hM, Y1, hst1⟩ := ve_inv (h := h) (ls := ls) (as := (st.take np).reverse) (rest := st.drop np) C Y (by rw [hT]; exact hP) hco hhw h3 hdg hct (by rw [List.length_reverse]; exact w1) (w4.imp (fun z => z.imp Nat.eq_of_beq_eq_true Nat.eq_of_beq_eq_true) id)
              rw [hsplit] at hst1
              obtain ⟨n1, n2, n3, n4⟩ := (ve_ckg_at hco).2 h3
              have hPT : ve_P G h (T.setVm vm').heap := by show ve_P G h T.heap; rw [hT]; exact hP
              split at hr
              · cases hr
              · rename_i v h1 hrun
                obtain ⟨T', locs', Y2, hlo2, hP2, hbd2, hst2⟩ := ve_into (rest := st.drop np) C Y1 hPT hlo hR hbd hl.1 n2 hM hdg w3 w2 (o := .inl v) (h' := h1)
                  (fun R' s' below' ls' C' hR' hl' hh' => by
                    have := ih d' cm 0 (ve_en (st.take np).reverse (ve_ml cm)) [] h (.inl v) h1 hrun p e R' s' mk ((st.take np).reverse.map (ve_cv (ve_ga G))).toArray below' methk ck (T.setVm vm').heap [] (ve_n h) (ve_u h) ls' C' hR' hPT (fun q hq => by cases hq) ⟨Nat.le_refl _, Nat.le_refl _, hbd.2.2.1, hbd.2.2.2⟩ hl' (fun q hq => by rw [hh']; exact hPT.2.2.2.2.2.2.1 q hq)
                    rw [Nat.sub_self, Nat.sub_self] at this
                    exact this)
                obtain ⟨t, c1, c2⟩ := ih (d' + 1) mi (pc + 3) lv (v.toList ++ st.drop np) h1 o h' hr p e R s m args below meth c T'.heap locs' n0 u0 ls C hR hP2 hlo2 hbd2 hl hsB T' rfl Y2
                exact ⟨t, hst1 t (fun acts => (hst2 acts).trans c1), c2⟩
              · rename_i a h1 hrun
                obtain ⟨T', locs', Y2, hlo2, hP2, hbd2, hst2⟩ := ve_into (rest := st.drop np) C Y1 hPT hlo hR hbd hl.1 n2 hM hdg w3 w2 (o := .inr a) (h' := h1)
                  (fun R' s' below' ls' C' hR' hl' hh' => by
                    have := ih d' cm 0 (ve_en (st.take np).reverse (ve_ml cm)) [] h (.inr a) h1 hrun p e R' s' mk ((st.take np).reverse.map (ve_cv (ve_ga G))).toArray below' methk ck (T.setVm vm').heap [] (ve_n h) (ve_u h) ls' C' hR' hPT (fun q hq => by cases hq) ⟨Nat.le_refl _, Nat.le_refl _, hbd.2.2.1, hbd.2.2.2⟩ hl' (fun q hq => by rw [hh']; exact hPT.2.2.2.2.2.2.1 q hq)
                    rw [Nat.sub_self, Nat.sub_self] at this
                    exact this)
                split at hr
                · rename_i hnil
                  obtain ⟨rfl, rfl⟩ := ve_prO hr
                  have hex0 := ve_hs_nil hex hnil
                  obtain ⟨st9, a1, a2, a3, a4⟩ := Y2.leaveThrown (ve_ga G a) (g := F0 m pc ls ((st.drop np).map (ve_cv (ve_ga G)))) rfl rfl rfl (by rw [hex0]; intro x hx1; cases hx1) hlk
                  exact ⟨_, hst1 _ (fun acts => (hst2 acts).trans st9), a1, a2, a3, hP2, hbd2, locs', hlo2, a4⟩
                · split at hr
                  · rename_i hp hfnd
                    have hk10 : 10 ≤ ve_k h1 a ∧ ve_k h1 a ≤ 12 := ve_hf_k _ (fun q hq => (ve_hs_ok hq).2) hfnd
                    obtain ⟨vm2, Y3, hst3⟩ := ve_catch C Y2 hP2 (g := F0 m pc ls ((st.drop np).map (ve_cv (ve_ga G)))) rfl rfl hk10 hfnd
                    obtain ⟨t, c1, c2⟩ := ih (d' + 1) mi hp lv [.ref a] h1 o h' hr p e R s m args below meth c T'.heap locs' n0 u0 ls C hR hP2 hlo2 hbd2 hl hsB (T'.setVm vm2) rfl Y3
                    exact ⟨t, hst1 t (fun acts => (hst2 acts).trans (hst3 t c1)), c2⟩
                  · cases hr
      · -- a jump
        split at hr
        · rename_i pc' st' hj
          exact ve_jp_ok hx hb hdg hln hj (ih d mi pc' lv st' h o h' hr p e R s m args below meth c H locs n0 u0 ls C hR hP hlo hbd hl hsB)
        · cases hr
      · -- locals and stack
        rename_i hct
        have hlen := ve_len hln (by rw [hct]; decide)
        subst hlen
        split at hr
        · rename_i lv' st' hj
          exact ve_pu_ok hx hb hdg hj hl (fun ls' hl' => ih d mi _ lv' st' h o h' hr p e R s m args below meth c H locs n0 u0 ls' C hR hP hlo hbd hl' hsB)
        · cases hr
      · -- the heap
        rename_i hc0 hc1 hc2 hc3 hc4
        have hlen := ve_len hln hc3
        subst hlen
        split at hr
        · rename_i st' h1 hj
          exact ve_he_ok hx hb hok hown hini hP hlo hR hbd.1 hbd.2.1 hdg hj (fun H' locs' hP' hlo' => ih d mi _ lv st' h1 o h' hr p e R s m args below meth c H' locs' n0 u0 ls C hR hP' hlo' (ve_he_bd hj hbd.1 hbd.2.1 hbd.2.2.1 hbd.2.2.2) hl hsB)
        · cases hr
end VES
