/-! Returns, copies, the constructor of Object; what a walk's end says -/
def ve_oc (ad : Nat → Nat) : ve_O → Outcome
  | .inl v => .returned (v.map (ve_cv ad))
  | .inr a => .threw (ad a)
/-- how a method's walk ends: with this outcome and this heap -/
def ve_Z (below : List Frame) (s : State) (G : ve_G) (n0 u0 : Nat) (o : ve_O) (h' : ve_H) : State → Prop := fun t =>
  t.status = .running ∧ Ended t below (ve_oc (ve_ga G) o) ∧ s.WarmedH t.vm ∧ ve_P G h' t.heap ∧ (n0 ≤ ve_n h' ∧ u0 ≤ ve_u h' ∧ ve_n h' ≤ 600003 ∧ ve_u h' ≤ 7302232) ∧
  ∃ L : List Loc, (∀ q ∈ L, ve_gB G ≤ q.base) ∧ s.sameButNew ({ t with vm := s.vm } : State) L (ve_n h' - n0) (ve_u h' - u0)
/-- what a walk of a method stands on -/
def ve_C (G : ve_G) (p : Program) (s : State) (m : MethodId) (meth : Method) (c : Code) (mi : Nat) : Prop :=
  p.tables.exec = Jvm.exec ∧ c.code = ve_cc mi ∧ c.maxLocals = ve_ml mi ∧ meth.sig.returnType = ve_rt mi ∧ meth.locks = false ∧ s.vm.findClass (ve_nm (ve_ow mi)) = some m.cls ∧
  (ve_ini mi = true → meth.name = "<init>") ∧ c.exceptionTable.toList.map (fun x => (x.startPc, x.endPc, x.handlerPc, x.catchType)) = ve_hs mi ∧ ve_ok G s
section VEK
variable {p : Program} {l : Launch} {e : Env} {R : Room} {s : State} {m : MethodId} {args : Array Value} {below : List Frame} {meth : Method} {c : Code} {H : Heap} {locs : List Loc} {Q : State → Prop}
variable {pc : Nat} {ls : Array Slot} {G : ve_G} {h h' : ve_H} {st st' : List Value} {n0 u0 d mi : Nat}
theorem ve_Wm {Q' : State → Prop} {cells slots : Nat} {g : JFrame} (hw : W p l e R s m args below meth c H locs cells slots Q' g) (hq : ∀ t, Q' t → Q t) : W p l e R s m args below meth c H locs cells slots Q g := by
  intro T hT X
  obtain ⟨t, a, b⟩ := hw T hT X
  exact ⟨t, a, hq t b⟩
theorem ve_mq {rv : Option Value} {v : Option Value} (hv : rv = v.map (ve_cv (ve_ga G))) (hbd : n0 ≤ ve_n h ∧ u0 ≤ ve_u h ∧ ve_n h ≤ 600003 ∧ ve_u h ≤ 7302232) {g : JFrame}
    (hw : W p l e R s m args below meth c H locs (ve_n h - n0) (ve_u h - u0) (MQ below (fun _ _ o t => o = .returned rv ∧ ve_P G h t.heap) args s (ve_n h - n0) (ve_u h - u0) (fun q => ve_gB G ≤ q)) g) :
    W p l e R s m args below meth c H locs (ve_n h - n0) (ve_u h - u0) (ve_Z below s G n0 u0 (.inl v) h) g := by
  refine ve_Wm hw fun t ht => ?_
  obtain ⟨o, a1, a2, ⟨rfl, a3⟩, L, ⟨-, a4, a5⟩, a6⟩ := ht
  subst hv
  exact ⟨a1, a2, a4, a3, hbd, L, a6, a5⟩
theorem ve_rv_ok (C : ve_C G p s m meth c mi) (hP : ve_P G h H) (hlo : ∀ q ∈ locs, ve_gB G ≤ q.base) (hbd : n0 ≤ ve_n h ∧ u0 ≤ ve_u h ∧ ve_n h ≤ 600003 ∧ ve_u h ≤ 7302232) {i : Instr} {v : Option Value} (hi : ve_rv (ve_rt mi) i st = some v) (hdg : decode (ve_cc mi) pc = .ok (i, 1)) :
    W p l e R s m args below meth c H locs (ve_n h - n0) (ve_u h - u0) (ve_Z below s G n0 u0 (.inl v) h) (F0 m pc ls (st.map (ve_cv (ve_ga G)))) := by
  obtain ⟨hx, hb, hml, hrt, hlk, -⟩ := C
  cases i
  case ireturn =>
    simp only [ve_rv] at hi
    split at hi
    · rename_i x
      split at hi
      · rename_i hr
        have hv : some (Value.int x) = v := Option.some.inj hi
        subst hv
        refine ve_mq (rv := some (.int x)) rfl hbd (W.iret hx hb (by rw [hrt, hr]) (fun t ht hW => ⟨rfl, by rw [ht]; exact hP⟩) hlo hdg)
      · rename_i hr
        obtain ⟨h01, hi⟩ := ve_ite_t hi
        have hv : some (Value.int x) = v := Option.some.inj hi
        subst hv
        refine ve_mq (rv := some (.int x)) rfl hbd (W.zret hx hb (by rw [hrt, hr]) (ve_b01 h01).1 (fun t ht hW => ⟨rfl, by rw [ht]; exact hP⟩) hlo hdg)
      · cases hi
    · cases hi
  case lreturn =>
    simp only [ve_rv] at hi
    split at hi
    · rename_i x
      split at hi
      · rename_i hr
        have hv : some (Value.long x) = v := Option.some.inj hi
        subst hv
        refine ve_mq (rv := some (.long x)) rfl hbd (W.lret hx hb (by rw [hrt, hr]) (fun t ht hW => ⟨rfl, by rw [ht]; exact hP⟩) hlo hdg)
      · cases hi
    · cases hi
  case return_ =>
    simp only [ve_rv] at hi
    split at hi
    · split at hi
      · rename_i hr
        have hv : none = v := Option.some.inj hi
        subst hv
        refine ve_mq (rv := none) rfl hbd (W.vret hx hb (by rw [hrt, hr]) (fun t ht hW => ⟨rfl, by rw [ht]; exact hP⟩) hlo hdg)
      · cases hi
    · cases hi
  all_goals exact absurd (show none = some _ from hi) (fun q => by cases q)
theorem ve_wd_cat (ad : Nat → Nat) : ∀ st : List Value, ((st.map (ve_cv ad)).map fun v => v.category).sum = ve_wd st
  | [] => rfl
  | v :: r => by
    simp only [List.map_cons, List.sum_cons, ve_wd, ve_cv_cat]
    rw [ve_wd_cat ad r]
/-- a whole cell changes -/
theorem ve_P.cel {H' : Heap} {a : Nat} (hP : ve_P G h H) (ha : ve_k h a ≠ 0) (h0 : a ≠ 0) (u1 : ve_n h' = ve_n h) (u3 : ∀ b, ve_k h' b = ve_k h b) (u4 : ∀ b, ve_z h' b = ve_z h b)
    (u7 : ∀ b j, b ≠ a → ve_I h' b j = ve_I h b j ∧ ve_L h' b j = ve_L h b j ∧ ve_R h' b j = ve_R h b j)
    (hc : ve_cell G H' (ve_ga G a) (ve_k h a) (ve_z h a) (fun j => ve_vl (ve_ga G) h' a (ve_tk (ve_k h a) j) j)) (hz : H'.size = H.size) (ho : ∀ q, q ≠ ve_ga G a → H'[q]? = H[q]?) : ve_P G h' H' := by
  obtain ⟨p1, p2, p3, p4, p5, p6, p7, p8⟩ := hP
  have hlt := (p5 a ha).1
  refine ⟨p1, by rw [u1]; exact p2, by rw [u1, hz]; exact p3, by rw [u3]; exact p4, fun b hb => ?_, fun b hb j => ?_, fun q hq => ?_, fun b hb => ?_⟩
  · rw [u3] at hb ⊢
    rw [u1, u4]
    refine ⟨(p5 b hb).1, ?_⟩
    by_cases hba : b = a
    · subst hba
      exact hc
    · refine (p5 b hb).2.kept (ho _ (fun q => hba (ve_ad_inj p1 q))) (fun j => ?_)
      obtain ⟨e1, e2, e3⟩ := u7 b j hba
      show ve_vl (ve_ga G) h' b _ j = ve_vl (ve_ga G) h b _ j
      unfold ve_vl
      rw [e1, e2, e3]
  · rw [u1] at hb
    have hba : b ≠ a := by omega
    obtain ⟨e1, e2, e3⟩ := u7 b j hba
    rw [e1, e2, e3]
    exact p6 b hb j
  · rw [ho q ?_]
    · exact p7 q hq
    · intro e
      cases a with
      | zero => exact h0 rfl
      | succ n =>
        have e1 : q = G.1.2 + n := e
        have hq1 : q < G.1.2 := hq
        omega
  · rw [u1] at hb
    rw [u3]
    exact p8 b hb
theorem ve_cp_L (h0 : ve_H) (src sp dst dp : Nat) (h : ve_H) (b j : Nat) : ∀ k, ve_L (ve_cp h0 src sp dst dp h k) b j = if b = dst ∧ dp ≤ j ∧ j < dp + k then ve_L h0 src (sp + (j - dp)) else ve_L h b j
  | 0 => by rw [if_neg (by omega)]; rfl
  | k + 1 => by
    show ve_L (ve_sL (ve_cp h0 src sp dst dp h k) dst (dp + k) (ve_L h0 src (sp + k))) b j = _
    rw [ve_L_sL, ve_cp_L h0 src sp dst dp h b j k]
    by_cases hb : b = dst
    · by_cases hj : j = dp + k
      · rw [if_pos ⟨hb, hj⟩, if_pos ⟨hb, by omega, by omega⟩]
        congr 1
        omega
      · rw [if_neg (fun q => hj q.2)]
        by_cases h2 : dp ≤ j ∧ j < dp + k
        · rw [if_pos ⟨hb, h2⟩, if_pos ⟨hb, h2.1, by omega⟩]
        · rw [if_neg (fun q => h2 q.2), if_neg (fun q => h2 ⟨q.2.1, by omega⟩)]
    · rw [if_neg (fun q => hb q.1), if_neg (fun q => hb q.1), if_neg (fun q => hb q.1)]
theorem ve_cp_o (h0 : ve_H) (src sp dst dp : Nat) (h : ve_H) : ∀ k, ve_n (ve_cp h0 src sp dst dp h k) = ve_n h ∧ ve_u (ve_cp h0 src sp dst dp h k) = ve_u h ∧ (∀ b, ve_k (ve_cp h0 src sp dst dp h k) b = ve_k h b) ∧ (∀ b, ve_z (ve_cp h0 src sp dst dp h k) b = ve_z h b) ∧ (∀ b j, ve_I (ve_cp h0 src sp dst dp h k) b j = ve_I h b j) ∧ (∀ b j, ve_R (ve_cp h0 src sp dst dp h k) b j = ve_R h b j)
  | 0 => ⟨rfl, rfl, fun _ => rfl, fun _ => rfl, fun _ _ => rfl, fun _ _ => rfl⟩
  | k + 1 => ve_cp_o h0 src sp dst dp h k
theorem ve_nn {z : Int32} (hz : ¬ z < 0) : z.toInt = (z.toNatClampNeg : Int) := by
  have hz0 : (0 : Int) ≤ z.toInt := by
    have := Int32.not_lt.mp hz
    simpa using Int32.le_iff_toInt_le.mp this
  show z.toInt = ((z.toInt.toNat : Nat) : Int)
  omega
theorem ve_copy_ok (C : ve_C G p s m meth c mi) (hP : ve_P G h H) (hlo : ∀ q ∈ locs, ve_gB G ≤ q.base) (hR : ve_rm R d n0 u0) (hls : ls.size = ve_ml mi) {idx cm np : Nat} (hco : ve_as (ve_co (ve_ow mi)) idx = some (2, cm, np)) (hdg : decode (ve_cc mi) pc = .ok (.invokestatic idx, 3))
    {k dp sp : Int32} {dst src : Nat} {r : List Value} (hs : ve_k h src = 21) (hd : ve_k h dst = 21) (hw : ve_wd r ≤ 20)
    (hin : ¬ (k < 0 ∨ sp < 0 ∨ dp < 0 ∨ ve_z h src < sp.toNatClampNeg + k.toNatClampNeg ∨ ve_z h dst < dp.toNatClampNeg + k.toNatClampNeg))
    (kk : ve_K p l e R s m args below meth c Q G (ve_cp h src sp.toNatClampNeg dst dp.toNatClampNeg h k.toNatClampNeg) n0 u0 (F0 m (pc + 3) ls (r.map (ve_cv (ve_ga G))))) :
    W p l e R s m args below meth c H locs (ve_n h - n0) (ve_u h - u0) Q (F0 m pc ls ((Value.int k :: .int dp :: .ref dst :: .int sp :: .ref src :: r).map (ve_cv (ve_ga G)))) := by
  obtain ⟨hx, hb, hml, hrt, hlk, hown, -, -, hok⟩ := C
  have hw3 := (ve_ckg_at hco).1
  have w1 : (Cond.methodLink (ve_nm (ve_ow mi)) idx ve_acn).before args s = true := hok.1 _ (hw3 _ (by simp [ve_cws])) rfl args
  have w2 : (Cond.native ve_acn).before args s = true := hok.1 _ (hw3 _ (by simp [ve_cws])) rfl args
  have w3 : (Cond.static ve_acn).before args s = true := hok.1 _ (hw3 _ (by simp [ve_cws])) rfl args
  have w4 : (Cond.initialized "java/lang/System").before args s = true := hok.1 _ (hw3 _ (by simp [ve_cws])) rfl args
  obtain ⟨hs0, c0⟩ := ve_ar hP hs (by decide) (by decide)
  obtain ⟨hd0, c1⟩ := ve_ar hP hd (by decide) (by decide)
  have h3 : ¬ k < 0 := fun q => hin (Or.inl q)
  have h1 : ¬ sp < 0 := fun q => hin (Or.inr (Or.inl q))
  have h2 : ¬ dp < 0 := fun q => hin (Or.inr (Or.inr (Or.inl q)))
  have h4 : sp.toNatClampNeg + k.toNatClampNeg ≤ ve_z h src := Nat.not_lt.mp fun q => hin (Or.inr (Or.inr (Or.inr (Or.inl q))))
  have h5 : dp.toNatClampNeg + k.toNatClampNeg ≤ ve_z h dst := Nat.not_lt.mp fun q => hin (Or.inr (Or.inr (Or.inr (Or.inr q))))
  have e0 : (fun j => ve_vl (ve_ga G) h src (ve_tk 21 j) j) = fun j => .long (ve_L h src j) := rfl
  have e1 : (fun j => ve_vl (ve_ga G) h dst (ve_tk 21 j) j) = fun j => .long (ve_L h dst j) := rfl
  rw [e0] at c0
  rw [e1] at c1
  intro T hT X
  obtain ⟨-, k0, hk0, cm0, hkk0⟩ := (hok.2.2.1 21 .long rfl).1 (ve_z h src) (fun j => .long (ve_L h src j))
  obtain ⟨-, k1, hk1, cm1, hkk1⟩ := (hok.2.2.1 21 .long rfl).1 (ve_z h dst) (fun j => .long (ve_L h dst j))
  obtain ⟨vm', X', step⟩ := X.arraycopy hx hown w1 w2 w3 w4 (src := ve_ga G src) (dst := ve_ga G dst) (cs := arrV (ve_gY G 21) (ve_z h src) (fun j => .long (ve_L h src j))) (cd := arrV (ve_gY G 21) (ve_z h dst) (fun j => .long (ve_L h dst j))) (srcPos := sp) (destPos := dp) (n := k) (by rw [hT]; exact c0) (by rw [hT]; exact c1)
    (fun _ q => by cases q) (fun _ q => by cases q) (fun q => by cases q) (fun q => by cases q) hk0 hk1 hkk0 hkk1 (by decide) h1 h2 h3
    (by rw [ve_nn h1, ve_nn h3, arrV_size]; omega)
    (by rw [ve_nn h2, ve_nn h3, arrV_size]; omega)
    (fun vm₁ _ i hi => by
      have e : (arrV (ve_gY G 21) (ve_z h src) (fun j => Value.long (ve_L h src j))).slots.getD (sp.toNatClampNeg + i) .null = .long (ve_L h src (sp.toNatClampNeg + i)) := by
        rw [Array.getD_eq_getD_getElem?, arrV_read _ _ (by omega)]
        rfl
      refine ⟨?_, ?_⟩
      · rw [e]; rfl
      · rw [e]; exact trivial)
    (g := F0 m pc ls ((Value.int k :: .int dp :: .ref dst :: .int sp :: .ref src :: r).map (ve_cv (ve_ga G)))) rfl (by rw [hml]; exact hls) (rest := r.map (ve_cv (ve_ga G))) rfl (by rw [hb]; exact hdg) (by have := hR.1; omega) (by
      have e9 := ve_wd_cat (ve_ga G) r
      have h9 := hR.2.2.2
      have h10 : nativeFrameWords "java/lang/System" "arraycopy" 5 ≤ 1000 := by decide
      show 2 * 0 + _ + _ ≤ _
      omega)
  have e2 : copied (arrV (ve_gY G 21) (ve_z h src) (fun j => Value.long (ve_L h src j))) (arrV (ve_gY G 21) (ve_z h dst) (fun j => Value.long (ve_L h dst j))) sp dp k = arrV (ve_gY G 21) (ve_z h dst) (fun j => .long (va_cpy (ve_L h src) (ve_L h dst) sp.toNatClampNeg dp.toNatClampNeg k.toNatClampNeg j)) := va_copied (fun z => .long z) (ve_gY G 21) (ve_gY G 21) (ve_L h src) (ve_L h dst) h4
  rw [e2] at X' step
  obtain ⟨o1, o2, o3, o4, o5, o6⟩ := ve_cp_o h src sp.toNatClampNeg dst dp.toNatClampNeg h k.toNatClampNeg
  generalize hcell : arrV (ve_gY G 21) (ve_z h dst) (fun j => Value.long (va_cpy (ve_L h src) (ve_L h dst) sp.toNatClampNeg dp.toNatClampNeg k.toNatClampNeg j)) = cN at X' step
  have hl : ve_ga G dst < H.size := (Array.getElem?_eq_some_iff.mp c1).1
  have hheap : ((T.setVm vm').setCell (ve_ga G dst) cN).heap = H.setIfInBounds (ve_ga G dst) cN := by rw [← hT]; rfl
  have hP' : ve_P G (ve_cp h src sp.toNatClampNeg dst dp.toNatClampNeg h k.toNatClampNeg) (H.setIfInBounds (ve_ga G dst) cN) := by
    refine hP.cel (a := dst) (by omega) hd0 o1 o3 o4 (fun b j hb => ⟨o5 b j, by rw [ve_cp_L, if_neg (fun q => hb q.1)], o6 b j⟩) ?_ (by simp) (fun q hq => by simp [Array.getElem?_setIfInBounds, Ne.symm hq])
    rw [hd]
    refine Or.inr (Or.inl ⟨by decide, by decide, ?_⟩)
    rw [Array.getElem?_setIfInBounds, if_pos rfl, if_pos hl, ← hcell]
    congr 2
    funext j
    show Value.long _ = Value.long (ve_L _ dst j)
    rw [ve_cp_L]
    unfold va_cpy
    by_cases hj : dp.toNatClampNeg ≤ j ∧ j < dp.toNatClampNeg + k.toNatClampNeg
    · rw [if_pos hj, if_pos ⟨rfl, hj⟩]
    · rw [if_neg hj, if_neg (fun q => hj q.2)]
  have X2 := X'
  rw [← o1, ← o2] at X2
  obtain ⟨t, a1, b1⟩ := (fun L' hL' => kk _ L' hP' hL' _ hheap) _ (fun q hq => (List.mem_append.mp hq).elim (hlo q) (fun h => by
      obtain ⟨z, -, hz⟩ := List.mem_map.mp h
      rw [← hz]
      exact ve_ga_B hd0)) X2
  exact ⟨t, step t a1, b1⟩
theorem ve_obj_ok (C : ve_C G p s m meth c mi) (hP : ve_P G h H) (hlo : ∀ q ∈ locs, ve_gB G ≤ q.base) (hR : ve_rm R d n0 u0) (hls : ls.size = ve_ml mi) {idx cm np a : Nat} (hco : ve_as (ve_co (ve_ow mi)) idx = some (0, cm, np)) (hdg : decode (ve_cc mi) pc = .ok (.invokespecial idx, 3))
    {r : List Value} (hw : ve_wd r ≤ 20)
    (kk : ve_K p l e R s m args below meth c Q G h n0 u0 (F0 m (pc + 3) ls (r.map (ve_cv (ve_ga G))))) :
    W p l e R s m args below meth c H locs (ve_n h - n0) (ve_u h - u0) Q (F0 m pc ls ((Value.ref a :: r).map (ve_cv (ve_ga G)))) := by
  obtain ⟨hx, hb, hml, hrt, hlk, hown, -, -, hok⟩ := C
  have hw3 := (ve_ckg_at hco).1
  refine W.objInit hx hb hown (hok.1 _ (hw3 (.methodLink (ve_nm (ve_ow mi)) idx objectInit) (by simp [ve_cws])) rfl args) (hok.1 _ (hw3 (.instanceMethod objectInit) (by simp [ve_cws])) rfl args) (hok.1 _ (hw3 (.code objectInit ⟨#[0xb1]⟩ 1 none) (by simp [ve_cws])) rfl args) rfl (by rw [hml]; exact hls) (rest := r.map (ve_cv (ve_ga G))) rfl hdg (by have := hR.1; omega) ?_ (kk H locs hP hlo)
  have e9 := ve_wd_cat (ve_ga G) r
  have h9 := hR.2.2.2
  show 2 * 0 + _ + _ ≤ _
  omega
end VEK
