/-! FROM A RUN OF THE SMALL MACHINE TO THE CLAIM. (lw_Q, lw_Z, lw_At begin as the skeleton's words; lw_At says more: no handlers.) -/
def R_law : String := "RuleHouseLaw"
def lw_Q (_ : Array Value) (s : State) (o : Outcome) (t : State) : Prop := o = .returned (some (.int 1)) ∧ Framed s o t [] 600002 7302232
def lw_Z (below : List Frame) (a : Array Value) (s : State) : State → Prop := fun t => ∃ o, t.status = .running ∧ Ended t below o ∧ lw_Q a s o t
def lw_At (p : Program) (s : State) (m : MethodId) (meth : Method) (c : Code) (b L : Nat) (xs : Nat → Int32) : Prop :=
  p.tables.exec = Jvm.exec ∧ c.code = code ∧ meth.sig.returnType = ret ∧ c.maxLocals = 8 ∧ s.vm.findClass R_law = some m.cls ∧ (∀ w ∈ lw_tbl, w.before #[Value.ref b] s = true) ∧ va_X b L xs s s.heap ∧ b < s.heap.size ∧ meth.locks = false ∧ (Jvm.Cond.and given_1 narrow_1).before #[Value.ref b] s = true ∧ c.exceptionTable.isEmpty = true
def ve_is : Nat → Nat
  | 1 => 13
  | 2 => 6
  | 3 => 13
  | 4 => 13
  | 5 => 9
  | 6 => 5
  | 7 => 16
  | 8 => 5
  | 9 => 79
  | _ => 6
set_option maxRecDepth 100000 in
theorem ve_isk : ((List.range 13).drop 1).all (fun kd => decide (Cond.instantiable (ve_nm kd) (ve_is kd) ∈ lw_tbl)) = true := by decide +kernel
set_option maxRecDepth 100000 in
theorem ve_ack : [FieldType.int, .long, .byte, .boolean].all (fun t => decide (Cond.arrayClass t ∈ lw_tbl)) && (decide (Cond.arrayOver (.object "RuleHouse$Rule") ∈ lw_tbl) && [10, 11, 12].all (fun kd => decide (Cond.castable (ve_nm kd) (ve_nm kd) ∈ lw_tbl))) = true := by decide +kernel
set_option maxRecDepth 100000 in
theorem ve_nck : [10, 11, 12].all (fun k1 => [10, 11, 12].all (fun k2 => Nat.beq k1 k2 || decide (Cond.not (.castable (ve_nm k1) (ve_nm k2)) ∈ flatC (Jvm.Cond.and given_1 narrow_1)))) = true := by decide +kernel
set_option maxRecDepth 100000 in
theorem ve_sck : decide (Cond.isRef (.static "java/lang/Throwable" "UNASSIGNED_STACK" "[Ljava/lang/StackTraceElement;") ∈ flatC (Jvm.Cond.and given_1 narrow_1)) && decide (Cond.isRef (.static "java/lang/Throwable" "SUPPRESSED_SENTINEL" "Ljava/util/List;") ∈ flatC (Jvm.Cond.and given_1 narrow_1)) = true := by decide +kernel
theorem ve_mem12 {kd : Nat} (h : 10 ≤ kd ∧ kd ≤ 12) : kd ∈ [10, 11, 12] := by
  simp only [List.mem_cons, List.not_mem_nil, or_false]
  omega
section VEZ
variable {p : Program} {e : Env} {s : State} {m : MethodId} {below : List Frame} {meth : Method} {c : Code}
set_option maxHeartbeats 4000000 in
set_option maxRecDepth 20000 in
theorem ve_start (l : Launch) (hfl : l.flags = flags0) {b L : Nat} {xs : Nat → Int32} (C0 : lw_At p s m meth c b L xs) (hrun : ∃ (n : Nat) (h' : ve_H), ve_run n 1000 ve_law 0 (ve_en [.ref 0] 8) [] (ve_h0 L xs) = some (.inl (some (.int 1)), h')) :
    W p l e room_1 s m #[Value.ref b] below meth c s.heap [] 0 0 (lw_Z below #[Value.ref b] s) (entryFrame m ([Value.ref b] : List Value).toArray 8) := by
  obtain ⟨hx, hb, hr, hml, hown, hts, hX, hbl, hlocks, hgv, hex⟩ := C0
  obtain ⟨scr, h1, h2, h3, h4, h5⟩ := hX
  obtain ⟨n, h', hrun⟩ := hrun
  have hk : ∀ kd : Nat, ∃ (cC : ClassId) (iS : Nat → Nat), 1 ≤ kd → kd ≤ 12 → u_Kn s (ve_nm kd) (ve_tt kd) (ve_nf kd) cC iS := by
    intro kd
    by_cases h : 1 ≤ kd ∧ kd ≤ 12
    · have hm : kd ∈ (List.range 13).drop 1 := by
        have : (List.range 13).drop 1 = [1, 2, 3, 4, 5, 6, 7, 8, 9, 10, 11, 12] := by decide
        rw [this]
        simp only [List.mem_cons, List.not_mem_nil, or_false]
        omega
      obtain ⟨cC, iS, hK⟩ := u_known (ws := lw_tbl) (n := ve_is kd) (C := ve_nm kd) (T := ve_tt kd) (N := ve_nf kd) hts (fun w hw => (ve_ckc_lay h.1 h.2 w hw).1) (hts _ (of_decide_eq_true (List.all_eq_true.mp ve_isk kd hm)))
      exact ⟨cC, iS, fun _ _ => hK⟩
    · exact ⟨0, fun _ => 0, fun a b => absurd ⟨a, b⟩ h⟩
  have hack := ve_ack
  simp only [Bool.and_eq_true, decide_eq_true_eq] at hack
  obtain ⟨hac1, hac2, hac3⟩ := hack
  have hprim : ∀ t ∈ [FieldType.int, .long, .byte, .boolean], ∃ cA : ClassId, ArrOfT s cA t ∧ s.vm.findClass ("[" ++ t.toString) = some cA := by
    intro t ht
    obtain ⟨cA, kA, comp, f1, f2, f3⟩ := Cond.arrayClass_spec (hts _ (of_decide_eq_true (List.all_eq_true.mp hac1 t ht)))
    exact ⟨cA, fun n z => ⟨fun k h => (by cases h), kA, f2, comp, f3⟩, f1⟩
  obtain ⟨comp, cR, kR, g1, g2, g3, g4, g5⟩ := Cond.arrayOver_spec (hts _ hac2)
  have hy : ∀ kd : Nat, ∃ cA : ClassId, (∀ ty, ve_aty kd = some ty → ArrOfT s cA ty ∧ s.vm.findClass ("[" ++ ty.toString) = some cA) ∧ (kd = 24 → cA = cR) := by
    intro kd
    by_cases h20 : kd = 20
    · obtain ⟨cA, a1, a2⟩ := hprim .int (by decide)
      subst h20
      exact ⟨cA, fun ty h => by cases h; exact ⟨a1, a2⟩, fun q => absurd q (by decide)⟩
    by_cases h21 : kd = 21
    · obtain ⟨cA, a1, a2⟩ := hprim .long (by decide)
      subst h21
      exact ⟨cA, fun ty h => by cases h; exact ⟨a1, a2⟩, fun q => absurd q (by decide)⟩
    by_cases h22 : kd = 22
    · obtain ⟨cA, a1, a2⟩ := hprim .byte (by decide)
      subst h22
      exact ⟨cA, fun ty h => by cases h; exact ⟨a1, a2⟩, fun q => absurd q (by decide)⟩
    by_cases h23 : kd = 23
    · obtain ⟨cA, a1, a2⟩ := hprim .boolean (by decide)
      subst h23
      exact ⟨cA, fun ty h => by cases h; exact ⟨a1, a2⟩, fun q => absurd q (by decide)⟩
    by_cases h24 : kd = 24
    · subst h24
      exact ⟨cR, fun ty h => by cases h; exact ⟨fun n z => ⟨fun k h => (by cases h), kR, g3, comp, g4⟩, g5⟩, fun _ => rfl⟩
    · refine ⟨0, fun ty h => ?_, fun q => absurd q h24⟩
      exfalso
      unfold ve_aty at h
      split at h
      · exact h20 rfl
      · exact h21 rfl
      · exact h22 rfl
      · exact h23 rfl
      · exact h24 rfl
      · cases h
  obtain ⟨dC, hdC⟩ : ∃ dC : Nat → ClassId, ∀ kd, ∃ iS : Nat → Nat, 1 ≤ kd → kd ≤ 12 → u_Kn s (ve_nm kd) (ve_tt kd) (ve_nf kd) (dC kd) iS := ⟨fun kd => Classical.choose (hk kd), fun kd => Classical.choose_spec (hk kd)⟩
  obtain ⟨dI, hdI⟩ : ∃ dI : Nat → Nat → Nat, ∀ kd, 1 ≤ kd → kd ≤ 12 → u_Kn s (ve_nm kd) (ve_tt kd) (ve_nf kd) (dC kd) (dI kd) := ⟨fun kd => Classical.choose (hdC kd), fun kd => Classical.choose_spec (hdC kd)⟩
  obtain ⟨cy, hcy⟩ : ∃ cy : Nat → ClassId, ∀ kd, (∀ ty, ve_aty kd = some ty → ArrOfT s (cy kd) ty ∧ s.vm.findClass ("[" ++ ty.toString) = some (cy kd)) ∧ (kd = 24 → cy kd = cR) := ⟨fun kd => Classical.choose (hy kd), fun kd => Classical.choose_spec (hy kd)⟩
  have hasg : ∀ k1 k2, 10 ≤ k1 → k1 ≤ 12 → 10 ≤ k2 → k2 ≤ 12 → s.vm.assignable (dC k1) (dC k2) = decide (k1 = k2) := by
    intro k1 k2 a1 a2 b1 b2
    have f1 := (hdI k1 (by omega) a2).2.1
    have f2 := (hdI k2 (by omega) b2).2.1
    by_cases hkk : k1 = k2
    · subst hkk
      obtain ⟨c1, c2, w1, w2, w3⟩ := Cond.castable_spec (hts _ (of_decide_eq_true (List.all_eq_true.mp hac3 k1 (ve_mem12 ⟨a1, a2⟩))))
      cases f1.symm.trans w1
      cases f1.symm.trans w2
      rw [w3, decide_eq_true rfl]
    · have h9 := List.all_eq_true.mp (List.all_eq_true.mp ve_nck k1 (ve_mem12 ⟨a1, a2⟩)) k2 (ve_mem12 ⟨b1, b2⟩)
      simp only [Bool.or_eq_true, decide_eq_true_eq] at h9
      rcases h9 with h9 | h9
      · exact absurd (Nat.eq_of_beq_eq_true h9) hkk
      · have hno := flat_of_before _ hgv _ h9
        have hv := Cond.holds_not_iff.mp hno
        simp only [Cond.value, f1, f2] at hv
        rw [decide_eq_false hkk]
        exact Option.some.inj hv
  have hwall : ∀ w ∈ lw_tbl, goodWord w = true → ∀ a : Array Value, w.before a s = true := fun w hw hg a => word_at (State.WarmedH.refl s) (good_of_word hg) (hts w hw)
  generalize hG : (((b, s.heap.size), scr, s, dC, dI, cy) : ve_G) = G
  have gB : ve_gB G = s.heap.size := by rw [← hG]
  have gH : ve_gH G = s.heap := by rw [← hG]
  have g0 : ve_g0 G = s := by rw [← hG]
  have hok : ve_ok G s := by
    subst hG
    refine ⟨hwall, hdI, fun kd ty h => (hcy kd).1 ty h, ?_, h2, h3, va_AO.of (hts _ hac2), fun own idx y hw => va_Nw.of rfl (hts _ hw), State.WarmedH.refl s, hasg⟩
    refine ⟨kR, ?_, ?_⟩
    · show s.vm.classes[cy 24]? = some kR
      rw [(hcy 24).2 rfl]
      exact g3
    · have : dC 7 = comp := Option.some.inj ((hdI 7 (by decide) (by decide)).2.1.symm.trans g1)
      show kR.kind = .array (dC 7) (.object "RuleHouse$Rule")
      rw [this]
      exact g4
  have hP : ve_P G (ve_h0 L xs) s.heap := by
    subst hG
    refine ⟨hbl, Nat.le_refl _, rfl, by rw [ve_h0_k]; rfl, fun a ha => ?_, fun a ha j => ?_, fun q _ => rfl, fun a ha => ?_⟩
    · rw [ve_h0_k] at ha
      have ha0 : a = 0 := by
        by_cases q : a = 0
        · exact q
        · rw [if_neg q] at ha
          exact absurd rfl ha
      subst ha0
      refine ⟨Nat.lt_succ_self 0, Or.inr (Or.inr ⟨by rw [ve_h0_k]; rfl, h1, by rw [h4, ve_h0_z]; rfl, fun j hj => ?_⟩)⟩
      rw [ve_h0_z, if_pos rfl] at hj
      rw [h5 j hj, ve_h0_k, if_pos rfl]
      show some (Value.int (xs j)) = some (.int (ve_I (ve_h0 L xs) 0 j))
      rw [ve_h0_I, if_pos rfl]
    · have ha : 1 ≤ a := ha
      exact ⟨by rw [ve_h0_I, if_neg (by omega)], ve_h0_L L xs a j, ve_h0_R L xs a j⟩
    · have ha : 1 ≤ a := ha
      rw [ve_h0_k, if_neg (by omega)]
  have hC : ve_C G p s m meth c ve_law := ⟨hx, hb, hml, hr, hlocks, hown, fun q => (by cases q), by
    have he0 : c.exceptionTable = #[] := by simpa using hex
    rw [he0]
    rfl, hok⟩
  have hsc := ve_sck
  simp only [Bool.and_eq_true, decide_eq_true_eq] at hsc
  have hXH : ve_XH l G := ve_xh hfl #[Value.ref b] (by rw [g0, gB]) (by rw [g0]; exact hts) (by rw [g0]; exact flat_of_before _ hgv _ hsc.1) (by rw [g0]; exact flat_of_before _ hgv _ hsc.2)
  have hbe : ve_ga G 0 = b := by rw [← hG]; rfl
  have hlr := ve_en_lr (ve_ga G) [.ref 0] (n := 8) (by decide)
  have hmap : [Value.ref 0].map (ve_cv (ve_ga G)) = [.ref b] := by
    show [Value.ref (ve_ga G 0)] = _
    rw [hbe]
  rw [hmap] at hlr
  rw [lg_entry_eq]
  have hRm : ve_rm room_1 1000 1 0 := ⟨by decide, by decide, by decide, by decide⟩
  have hW := ve_sound hXH n 1000 ve_law 0 (ve_en [.ref 0] 8) [] (ve_h0 L xs) _ h' hrun p e room_1 s m #[Value.ref b] below meth c s.heap [] 1 0 _ hC hRm hP (fun q hq => by cases hq) ⟨Nat.le_refl _, Nat.le_refl _, by rw [ve_h0_n]; decide, by rw [ve_h0_u]; decide⟩ hlr (fun q _ => by rw [gH])
  have e1 : ve_n (ve_h0 L xs) - 1 = 0 := rfl
  have e2 : ve_u (ve_h0 L xs) - 0 = 0 := rfl
  rw [e1, e2] at hW
  refine ve_Wm hW fun t ht => ?_
  obtain ⟨z1, z2, z3, z4, z5, L', z6, z7⟩ := ht
  refine ⟨.returned (some (.int 1)), z1, z2, rfl, ⟨_, rfl⟩, z3, ?_⟩
  refine z7.weaken (fun y hy hlt => ?_) (by omega) (by omega)
  have := z6 y hy
  rw [gB] at this
  exact absurd hlt (Nat.not_lt.mpr this)
end VEZ
