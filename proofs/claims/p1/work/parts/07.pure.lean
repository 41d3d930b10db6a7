/-! Values and locals of the small machine in the JVM's machine; its instructions on locals and stack, its jumps -/
def ve_ad (b B : Nat) : Nat → Nat
  | 0 => b
  | k + 1 => B + k
theorem ve_ad_inj {b B : Nat} (hb : b < B) : ∀ {i j : Nat}, ve_ad b B i = ve_ad b B j → i = j
  | 0, 0, _ => rfl
  | 0, j + 1, h => by have h1 : b = B + j := h; omega
  | i + 1, 0, h => by have h1 : B + i = b := h; omega
  | i + 1, j + 1, h => by have h1 : B + i = B + j := h; omega
def ve_cv (ad : Nat → Nat) : Value → Value
  | .ref a => .ref (ad a)
  | v => v
theorem ve_cv_cat (ad : Nat → Nat) (v : Value) : (ve_cv ad v).category = v.category := by cases v <;> rfl
def ve_lr (ad : Nat → Nat) (nL : Nat) (ls : Array Slot) (lv : ve_V) : Prop := ls.size = nL ∧ lv_wf ls ∧ ∀ (i : Nat) (v : Value), lv.getD i none = some v → ls[i]? = some (.val (ve_cv ad v))
def ve_al (ad : Nat → Nat) (lv : ve_V) (nL : Nat) : List (Nat × Value) := (List.range nL).filterMap (fun j => (lv.getD j none).map (fun v => (j, ve_cv ad v)))
theorem ve_al_mem {ad : Nat → Nat} {lv : ve_V} {nL : Nat} {q : Nat × Value} (h : q ∈ ve_al ad lv nL) : ∃ v, lv.getD q.1 none = some v ∧ q.2 = ve_cv ad v := by
  obtain ⟨j, -, hj⟩ := List.mem_filterMap.mp h
  cases hv : lv.getD j none with
  | none => rw [hv] at hj; cases hj
  | some v =>
    rw [hv] at hj
    have h1 : (j, ve_cv ad v) = q := Option.some.inj hj
    subst h1
    exact ⟨v, hv, rfl⟩
theorem ve_al_in {ad : Nat → Nat} {lv : ve_V} {nL j : Nat} {v : Value} (hj : j < nL) (h : lv.getD j none = some v) : (j, ve_cv ad v) ∈ ve_al ad lv nL :=
  List.mem_filterMap.mpr ⟨j, List.mem_range.mpr hj, by rw [h]; rfl⟩
theorem ve_lr_has {ad : Nat → Nat} {nL : Nat} {ls : Array Slot} {lv : ve_V} (h : ve_lr ad nL ls lv) : lv_has ls nL (ve_al ad lv nL) :=
  ⟨h.1, h.2.1, fun q hq => by
    obtain ⟨v, h1, h2⟩ := ve_al_mem hq
    rw [h2]
    exact h.2.2 q.1 v h1⟩
theorem ve_set_gd (lv : ve_V) (i : Nat) (x : Option Value) (j : Nat) (v : Value) (h : (lv.set i x).getD j none = some v) : (j = i ∧ x = some v) ∨ (j ≠ i ∧ lv.getD j none = some v) := by
  rw [List.getD_eq_getElem?_getD] at h
  by_cases hj : j = i
  · subst hj
    rw [List.getElem?_set] at h
    split at h
    · split at h
      · exact Or.inl ⟨rfl, h⟩
      · cases h
    · rename_i hne
      exact absurd rfl hne
  · rw [List.getElem?_set_ne (Ne.symm hj)] at h
    exact Or.inr ⟨hj, by rw [List.getD_eq_getElem?_getD]; exact h⟩
theorem ve_kl_gd (lv : ve_V) (i j : Nat) (v : Value) (h : (ve_kl lv i).getD j none = some v) : lv.getD j none = some v ∧ ¬ (j + 1 = i ∧ v.category = 2) := by
  cases i with
  | zero => exact ⟨h, fun q => by omega⟩
  | succ n =>
    have h : (bif ve_lg (lv.getD n none) then lv.set n none else lv).getD j none = some v := h
    cases hg : ve_lg (lv.getD n none) with
    | true =>
      rw [hg] at h
      rcases ve_set_gd lv n none j v h with ⟨-, h2⟩ | ⟨h1, h2⟩
      · cases h2
      · exact ⟨h2, fun q => h1 (by omega)⟩
    | false =>
      rw [hg] at h
      have h2 : lv.getD j none = some v := h
      refine ⟨h2, fun q => ?_⟩
      have hj : j = n := by omega
      subst hj
      rw [h2] at hg
      cases v <;> simp [ve_lg, Value.category] at hg q
theorem ve_lr_l1 {ad : Nat → Nat} {nL : Nat} {ls' : Array Slot} {lv : ve_V} {i : Nat} {x : Value} (hn : ∀ j v, lv.getD j none = some v → j < nL)
    (h : lv_has ls' nL ((i, ve_cv ad x) :: (ve_al ad lv nL).filter (fun q => !(q.1 == i) && !(q.1 + 1 == i && q.2.category == 2)))) : ve_lr ad nL ls' (ve_l1 lv i x) := by
  refine ⟨h.1, h.2.1, fun j v hj => ?_⟩
  rcases ve_set_gd _ i (some x) j v hj with ⟨rfl, h2⟩ | ⟨h1, h2⟩
  · cases h2
    exact h.2.2 (j, ve_cv ad x) List.mem_cons_self
  · obtain ⟨h3, h4⟩ := ve_kl_gd lv i j v h2
    refine h.2.2 (j, ve_cv ad v) (List.mem_cons_of_mem _ (List.mem_filter.mpr ⟨ve_al_in (hn j v h3) h3, ?_⟩))
    have e1 : (j == i) = false := by simpa using h1
    have e2 : (j + 1 == i && (ve_cv ad v).category == 2) = false := by
      rw [ve_cv_cat]
      cases hb : (j + 1 == i && v.category == 2) with
      | false => rfl
      | true => exact absurd (by simpa using hb) h4
    simp only [e1, e2, Bool.not_false, Bool.and_self]
theorem ve_lr_l2 {ad : Nat → Nat} {nL : Nat} {ls' : Array Slot} {lv : ve_V} {i : Nat} {x : Value} (hn : ∀ j v, lv.getD j none = some v → j < nL)
    (h : lv_has ls' nL ((i, ve_cv ad x) :: (ve_al ad lv nL).filter (fun q => !(q.1 == i) && (!(q.1 == i + 1) && !(q.1 + 1 == i && q.2.category == 2))))) : ve_lr ad nL ls' (ve_l2 lv i x) := by
  refine ⟨h.1, h.2.1, fun j v hj => ?_⟩
  rcases ve_set_gd _ (i + 1) none j v hj with ⟨-, h2⟩ | ⟨h0, hj⟩
  · cases h2
  rcases ve_set_gd _ i (some x) j v hj with ⟨rfl, h2⟩ | ⟨h1, h2⟩
  · cases h2
    exact h.2.2 (j, ve_cv ad x) List.mem_cons_self
  · obtain ⟨h3, h4⟩ := ve_kl_gd lv i j v h2
    refine h.2.2 (j, ve_cv ad v) (List.mem_cons_of_mem _ (List.mem_filter.mpr ⟨ve_al_in (hn j v h3) h3, ?_⟩))
    have e0 : (j == i + 1) = false := by simpa using h0
    have e1 : (j == i) = false := by simpa using h1
    have e2 : (j + 1 == i && (ve_cv ad v).category == 2) = false := by
      rw [ve_cv_cat]
      cases hb : (j + 1 == i && v.category == 2) with
      | false => rfl
      | true => exact absurd (by simpa using hb) h4
    simp only [e0, e1, e2, Bool.not_false, Bool.and_self]
theorem ve_lr_lt {ad : Nat → Nat} {nL : Nat} {ls : Array Slot} {lv : ve_V} (h : ve_lr ad nL ls lv) : ∀ j v, lv.getD j none = some v → j < nL := fun j v hj => by
  have h1 := h.2.2 j v hj
  rw [← h.1]
  exact (Array.getElem?_eq_some_iff.mp h1).1
/-- the length of an instruction -/
def ve_ln : Instr → Nat
  | .bipush _ => 2
  | .iload _ => 2
  | .lload _ => 2
  | .aload _ => 2
  | .istore _ => 2
  | .lstore _ => 2
  | .astore _ => 2
  | .newarray _ => 2
  | .sipush _ => 3
  | .iinc _ _ => 3
  | .getfield _ => 3
  | .putfield _ => 3
  | .new _ => 3
  | .anewarray _ => 3
  | .ldc2_w _ => 3
  | .invokevirtual _ => 3
  | .invokestatic _ => 3
  | .invokespecial _ => 3
  | .goto _ => 3
  | .ifCond _ _ => 3
  | .if_icmp _ _ => 3
  | _ => 1
def ve_lnb (i : Instr) (len : Nat) : Bool := match i with
  | .tableswitch _ _ _ _ => true
  | .lookupswitch _ _ => true
  | j => len.beq (ve_ln j)
set_option maxRecDepth 100000 in
theorem ve_lnk : ve_gs.all (fun g => g.all (fun r => r.2.2.2.2.2.2.2.all (fun l => l.all (fun q => ve_lnb q.2.1 q.2.2)))) = true := by decide +kernel
theorem ve_f_ln {mi pc : Nat} {i : Instr} {len : Nat} (h : ve_f mi pc = some (i, len)) : ve_lnb i len = true := by
  have h1 := ve_lk_mem _ _ _ h
  rcases ve_getD_mem (ve_e mi).2.2.2.2.2.2.2 (pc / 32) [] with h3 | h3
  · rcases ve_e_mem mi with ⟨g, hg, h4⟩ | h4
    · exact List.all_eq_true.mp (List.all_eq_true.mp (List.all_eq_true.mp (List.all_eq_true.mp ve_lnk g hg) _ h4) _ h3) _ h1
    · rw [h4] at h3
      cases h3
  · rw [h3] at h1
    cases h1
section VEP
variable {p : Program} {l : Launch} {e : Env} {R : Room} {s : State} {m : MethodId} {args : Array Value} {below : List Frame} {meth : Method} {c : Code} {H : Heap} {locs : List Loc} {cells slots : Nat} {Q : State → Prop}
variable {cc : ByteArray} {pc : Nat} {ls : Array Slot} {ad : Nat → Nat} {nL : Nat}
set_option maxHeartbeats 4000000 in
theorem ve_pu_ok (hx : p.tables.exec = Jvm.exec) (hb : c.code = cc) {i : Instr} {lv lv' : ve_V} {st st' : List Value} (hdg : decode cc pc = .ok (i, ve_ln i)) (h : ve_pu nL i lv st = some (lv', st')) (hl : ve_lr ad nL ls lv)
    (k : ∀ ls', ve_lr ad nL ls' lv' → W p l e R s m args below meth c H locs cells slots Q (F0 m (pc + ve_ln i) ls' (st'.map (ve_cv ad)))) : W p l e R s m args below meth c H locs cells slots Q (F0 m pc ls (st.map (ve_cv ad))) := by
  cases i
  case iconst n =>
    obtain ⟨rfl, rfl⟩ : lv = lv' ∧ _ :: st = st' := by have h1 := Option.some.inj h; exact ⟨congrArg Prod.fst h1, congrArg Prod.snd h1⟩
    exact lv_iconst hx hb hdg rfl (k ls hl)
  case bipush n =>
    obtain ⟨rfl, rfl⟩ : lv = lv' ∧ _ :: st = st' := by have h1 := Option.some.inj h; exact ⟨congrArg Prod.fst h1, congrArg Prod.snd h1⟩
    exact lv_bipush hx hb hdg rfl (k ls hl)
  case sipush n =>
    obtain ⟨rfl, rfl⟩ : lv = lv' ∧ _ :: st = st' := by have h1 := Option.some.inj h; exact ⟨congrArg Prod.fst h1, congrArg Prod.snd h1⟩
    exact lv_sipush hx hb hdg rfl (k ls hl)
  case lconst n =>
    obtain ⟨rfl, rfl⟩ : lv = lv' ∧ _ :: st = st' := by have h1 := Option.some.inj h; exact ⟨congrArg Prod.fst h1, congrArg Prod.snd h1⟩
    exact lv_lconst hx hb hdg rfl (k ls hl)
  case iload_n n =>
    simp only [ve_pu] at h
    split at h
    · rename_i x hq
      obtain ⟨rfl, rfl⟩ : lv = lv' ∧ _ :: st = st' := by have h1 := Option.some.inj h; exact ⟨congrArg Prod.fst h1, congrArg Prod.snd h1⟩
      exact lv_iload_n hx hb hdg rfl (hl.2.2 _ _ hq) (k ls hl)
    · cases h
  case iload n =>
    simp only [ve_pu] at h
    split at h
    · rename_i x hq
      obtain ⟨rfl, rfl⟩ : lv = lv' ∧ _ :: st = st' := by have h1 := Option.some.inj h; exact ⟨congrArg Prod.fst h1, congrArg Prod.snd h1⟩
      exact lv_iload hx hb hdg (hl.2.2 _ _ hq) (k ls hl)
    · cases h
  case lload_n n =>
    simp only [ve_pu] at h
    split at h
    · rename_i x hq
      obtain ⟨rfl, rfl⟩ : lv = lv' ∧ _ :: st = st' := by have h1 := Option.some.inj h; exact ⟨congrArg Prod.fst h1, congrArg Prod.snd h1⟩
      exact lv_lload_n hx hb hdg rfl (hl.2.2 _ _ hq) (k ls hl)
    · cases h
  case lload n =>
    simp only [ve_pu] at h
    split at h
    · rename_i x hq
      obtain ⟨rfl, rfl⟩ : lv = lv' ∧ _ :: st = st' := by have h1 := Option.some.inj h; exact ⟨congrArg Prod.fst h1, congrArg Prod.snd h1⟩
      exact lv_lload hx hb hdg (hl.2.2 _ _ hq) (k ls hl)
    · cases h
  case aload_n n =>
    simp only [ve_pu] at h
    split at h
    · rename_i x hq
      obtain ⟨rfl, rfl⟩ : lv = lv' ∧ _ :: st = st' := by have h1 := Option.some.inj h; exact ⟨congrArg Prod.fst h1, congrArg Prod.snd h1⟩
      exact lv_aload_n hx hb hdg rfl (hl.2.2 _ _ hq) (k ls hl)
    · cases h
  case aload n =>
    simp only [ve_pu] at h
    split at h
    · rename_i x hq
      obtain ⟨rfl, rfl⟩ : lv = lv' ∧ _ :: st = st' := by have h1 := Option.some.inj h; exact ⟨congrArg Prod.fst h1, congrArg Prod.snd h1⟩
      exact lv_aload hx hb hdg (hl.2.2 _ _ hq) (k ls hl)
    · cases h
  case istore_n n =>
    simp only [ve_pu] at h
    split at h
    · rename_i x r
      cases hbl : Nat.blt (↑n) nL with
      | false => rw [hbl] at h; cases h
      | true =>
        rw [hbl] at h
        obtain ⟨rfl, rfl⟩ : _ = lv' ∧ r = st' := by have h1 := Option.some.inj h; exact ⟨congrArg Prod.fst h1, congrArg Prod.snd h1⟩
        exact lv_istore_n hx hb hdg rfl (ve_lr_has hl) (Nat.blt_eq.mp hbl) rfl (fun ls' h9 => k ls' (ve_lr_l1 (ve_lr_lt hl) h9))
    · cases h
  case istore n =>
    simp only [ve_pu] at h
    split at h
    · rename_i x r
      cases hbl : Nat.blt n nL with
      | false => rw [hbl] at h; cases h
      | true =>
        rw [hbl] at h
        obtain ⟨rfl, rfl⟩ : _ = lv' ∧ r = st' := by have h1 := Option.some.inj h; exact ⟨congrArg Prod.fst h1, congrArg Prod.snd h1⟩
        exact lv_istore hx hb hdg (ve_lr_has hl) (Nat.blt_eq.mp hbl) rfl (fun ls' h9 => k ls' (ve_lr_l1 (ve_lr_lt hl) h9))
    · cases h
  case astore_n n =>
    simp only [ve_pu] at h
    split at h
    · rename_i x r
      cases hbl : Nat.blt (↑n) nL with
      | false => rw [hbl] at h; cases h
      | true =>
        rw [hbl] at h
        obtain ⟨rfl, rfl⟩ : _ = lv' ∧ r = st' := by have h1 := Option.some.inj h; exact ⟨congrArg Prod.fst h1, congrArg Prod.snd h1⟩
        exact lv_astore_n hx hb hdg rfl (ve_lr_has hl) (Nat.blt_eq.mp hbl) rfl (fun ls' h9 => k ls' (ve_lr_l1 (ve_lr_lt hl) h9))
    · cases h
  case astore n =>
    simp only [ve_pu] at h
    split at h
    · rename_i x r
      cases hbl : Nat.blt n nL with
      | false => rw [hbl] at h; cases h
      | true =>
        rw [hbl] at h
        obtain ⟨rfl, rfl⟩ : _ = lv' ∧ r = st' := by have h1 := Option.some.inj h; exact ⟨congrArg Prod.fst h1, congrArg Prod.snd h1⟩
        exact lv_astore hx hb hdg (ve_lr_has hl) (Nat.blt_eq.mp hbl) rfl (fun ls' h9 => k ls' (ve_lr_l1 (ve_lr_lt hl) h9))
    · cases h
  case lstore_n n =>
    simp only [ve_pu] at h
    split at h
    · rename_i x r
      cases hbl : Nat.blt (↑n + 1) nL with
      | false => rw [hbl] at h; cases h
      | true =>
        rw [hbl] at h
        obtain ⟨rfl, rfl⟩ : _ = lv' ∧ r = st' := by have h1 := Option.some.inj h; exact ⟨congrArg Prod.fst h1, congrArg Prod.snd h1⟩
        exact lv_lstore_n hx hb hdg rfl (ve_lr_has hl) (Nat.blt_eq.mp hbl) rfl (fun ls' h9 => k ls' (ve_lr_l2 (ve_lr_lt hl) h9))
    · cases h
  case lstore n =>
    simp only [ve_pu] at h
    split at h
    · rename_i x r
      cases hbl : Nat.blt (n + 1) nL with
      | false => rw [hbl] at h; cases h
      | true =>
        rw [hbl] at h
        obtain ⟨rfl, rfl⟩ : _ = lv' ∧ r = st' := by have h1 := Option.some.inj h; exact ⟨congrArg Prod.fst h1, congrArg Prod.snd h1⟩
        exact lv_lstore hx hb hdg (ve_lr_has hl) (Nat.blt_eq.mp hbl) rfl (fun ls' h9 => k ls' (ve_lr_l2 (ve_lr_lt hl) h9))
    · cases h
  case iinc n z =>
    simp only [ve_pu] at h
    split at h
    · rename_i x hq
      cases hbl : Nat.blt n nL with
      | false => rw [hbl] at h; cases h
      | true =>
        rw [hbl] at h
        obtain ⟨rfl, rfl⟩ : _ = lv' ∧ st = st' := by have h1 := Option.some.inj h; exact ⟨congrArg Prod.fst h1, congrArg Prod.snd h1⟩
        obtain ⟨k9, hk9⟩ := List.getElem?_of_mem (ve_al_in (ad := ad) (Nat.blt_eq.mp hbl) hq)
        exact lv_iinc hx hb hdg (ve_lr_has hl) (k := k9) hk9 rfl (Nat.blt_eq.mp hbl) rfl (fun ls' h9 => k ls' (ve_lr_l1 (x := .int _) (ve_lr_lt hl) h9))
    · cases h
  case iadd =>
    simp only [ve_pu] at h
    split at h
    · obtain ⟨rfl, rfl⟩ : lv = lv' ∧ _ = st' := by have h1 := Option.some.inj h; exact ⟨congrArg Prod.fst h1, congrArg Prod.snd h1⟩
      exact lv_iadd hx hb hdg (k ls hl)
    · cases h
  case isub =>
    simp only [ve_pu] at h
    split at h
    · obtain ⟨rfl, rfl⟩ : lv = lv' ∧ _ = st' := by have h1 := Option.some.inj h; exact ⟨congrArg Prod.fst h1, congrArg Prod.snd h1⟩
      exact lv_isub hx hb hdg (k ls hl)
    · cases h
  case imul =>
    simp only [ve_pu] at h
    split at h
    · obtain ⟨rfl, rfl⟩ : lv = lv' ∧ _ = st' := by have h1 := Option.some.inj h; exact ⟨congrArg Prod.fst h1, congrArg Prod.snd h1⟩
      exact lv_imul hx hb hdg (k ls hl)
    · cases h
  case iand =>
    simp only [ve_pu] at h
    split at h
    · obtain ⟨rfl, rfl⟩ : lv = lv' ∧ _ = st' := by have h1 := Option.some.inj h; exact ⟨congrArg Prod.fst h1, congrArg Prod.snd h1⟩
      exact lv_iand hx hb hdg (k ls hl)
    · cases h
  case ior =>
    simp only [ve_pu] at h
    split at h
    · obtain ⟨rfl, rfl⟩ : lv = lv' ∧ _ = st' := by have h1 := Option.some.inj h; exact ⟨congrArg Prod.fst h1, congrArg Prod.snd h1⟩
      exact lv_ior hx hb hdg (k ls hl)
    · cases h
  case ixor =>
    simp only [ve_pu] at h
    split at h
    · obtain ⟨rfl, rfl⟩ : lv = lv' ∧ _ = st' := by have h1 := Option.some.inj h; exact ⟨congrArg Prod.fst h1, congrArg Prod.snd h1⟩
      exact lv_ixor hx hb hdg (k ls hl)
    · cases h
  case ishl =>
    simp only [ve_pu] at h
    split at h
    · obtain ⟨rfl, rfl⟩ : lv = lv' ∧ _ = st' := by have h1 := Option.some.inj h; exact ⟨congrArg Prod.fst h1, congrArg Prod.snd h1⟩
      exact lv_ishl hx hb hdg (k ls hl)
    · cases h
  case ladd =>
    simp only [ve_pu] at h
    split at h
    · obtain ⟨rfl, rfl⟩ : lv = lv' ∧ _ = st' := by have h1 := Option.some.inj h; exact ⟨congrArg Prod.fst h1, congrArg Prod.snd h1⟩
      exact lv_ladd hx hb hdg (k ls hl)
    · cases h
  case lsub =>
    simp only [ve_pu] at h
    split at h
    · obtain ⟨rfl, rfl⟩ : lv = lv' ∧ _ = st' := by have h1 := Option.some.inj h; exact ⟨congrArg Prod.fst h1, congrArg Prod.snd h1⟩
      exact lv_lsub hx hb hdg (k ls hl)
    · cases h
  case lmul =>
    simp only [ve_pu] at h
    split at h
    · obtain ⟨rfl, rfl⟩ : lv = lv' ∧ _ = st' := by have h1 := Option.some.inj h; exact ⟨congrArg Prod.fst h1, congrArg Prod.snd h1⟩
      exact lv_lmul hx hb hdg (k ls hl)
    · cases h
  case land =>
    simp only [ve_pu] at h
    split at h
    · obtain ⟨rfl, rfl⟩ : lv = lv' ∧ _ = st' := by have h1 := Option.some.inj h; exact ⟨congrArg Prod.fst h1, congrArg Prod.snd h1⟩
      exact lv_land hx hb hdg (k ls hl)
    · cases h
  case lor =>
    simp only [ve_pu] at h
    split at h
    · obtain ⟨rfl, rfl⟩ : lv = lv' ∧ _ = st' := by have h1 := Option.some.inj h; exact ⟨congrArg Prod.fst h1, congrArg Prod.snd h1⟩
      exact lv_lor hx hb hdg (k ls hl)
    · cases h
  case lxor =>
    simp only [ve_pu] at h
    split at h
    · obtain ⟨rfl, rfl⟩ : lv = lv' ∧ _ = st' := by have h1 := Option.some.inj h; exact ⟨congrArg Prod.fst h1, congrArg Prod.snd h1⟩
      exact lv_lxor hx hb hdg (k ls hl)
    · cases h
  case lcmp =>
    simp only [ve_pu] at h
    split at h
    · obtain ⟨rfl, rfl⟩ : lv = lv' ∧ _ = st' := by have h1 := Option.some.inj h; exact ⟨congrArg Prod.fst h1, congrArg Prod.snd h1⟩
      exact W.lcmp hx hb hdg (k ls hl)
    · cases h
  case lshl =>
    simp only [ve_pu] at h
    split at h
    · obtain ⟨rfl, rfl⟩ : lv = lv' ∧ _ = st' := by have h1 := Option.some.inj h; exact ⟨congrArg Prod.fst h1, congrArg Prod.snd h1⟩
      exact lv_lshl hx hb hdg rfl (k ls hl)
    · cases h
  case lshr =>
    simp only [ve_pu] at h
    split at h
    · obtain ⟨rfl, rfl⟩ : lv = lv' ∧ _ = st' := by have h1 := Option.some.inj h; exact ⟨congrArg Prod.fst h1, congrArg Prod.snd h1⟩
      exact lv_lshr hx hb hdg rfl (k ls hl)
    · cases h
  case lushr =>
    simp only [ve_pu] at h
    split at h
    · obtain ⟨rfl, rfl⟩ : lv = lv' ∧ _ = st' := by have h1 := Option.some.inj h; exact ⟨congrArg Prod.fst h1, congrArg Prod.snd h1⟩
      exact lv_lushr hx hb hdg rfl (k ls hl)
    · cases h
  case idiv =>
    simp only [ve_pu] at h
    split at h
    · split at h
      · cases h
      · rename_i hne
        obtain ⟨rfl, rfl⟩ : lv = lv' ∧ _ = st' := by have h1 := Option.some.inj h; exact ⟨congrArg Prod.fst h1, congrArg Prod.snd h1⟩
        exact lv_idiv hx hb hdg hne (k ls hl)
    · cases h
  case irem =>
    simp only [ve_pu] at h
    split at h
    · split at h
      · cases h
      · rename_i hne
        obtain ⟨rfl, rfl⟩ : lv = lv' ∧ _ = st' := by have h1 := Option.some.inj h; exact ⟨congrArg Prod.fst h1, congrArg Prod.snd h1⟩
        exact lv_irem hx hb hdg hne (k ls hl)
    · cases h
  case ineg =>
    simp only [ve_pu] at h
    split at h
    · obtain ⟨rfl, rfl⟩ : lv = lv' ∧ _ = st' := by have h1 := Option.some.inj h; exact ⟨congrArg Prod.fst h1, congrArg Prod.snd h1⟩
      exact lv_ineg hx hb hdg (k ls hl)
    · cases h
  case lneg =>
    simp only [ve_pu] at h
    split at h
    · obtain ⟨rfl, rfl⟩ : lv = lv' ∧ _ = st' := by have h1 := Option.some.inj h; exact ⟨congrArg Prod.fst h1, congrArg Prod.snd h1⟩
      exact lv_lneg hx hb hdg (k ls hl)
    · cases h
  case i2l =>
    simp only [ve_pu] at h
    split at h
    · obtain ⟨rfl, rfl⟩ : lv = lv' ∧ _ = st' := by have h1 := Option.some.inj h; exact ⟨congrArg Prod.fst h1, congrArg Prod.snd h1⟩
      exact lv_i2l hx hb hdg rfl (k ls hl)
    · cases h
  case l2i =>
    simp only [ve_pu] at h
    split at h
    · obtain ⟨rfl, rfl⟩ : lv = lv' ∧ _ = st' := by have h1 := Option.some.inj h; exact ⟨congrArg Prod.fst h1, congrArg Prod.snd h1⟩
      exact lv_l2i hx hb hdg rfl (k ls hl)
    · cases h
  case i2b =>
    simp only [ve_pu] at h
    split at h
    · obtain ⟨rfl, rfl⟩ : lv = lv' ∧ _ = st' := by have h1 := Option.some.inj h; exact ⟨congrArg Prod.fst h1, congrArg Prod.snd h1⟩
      exact lv_i2b hx hb hdg rfl (k ls hl)
    · cases h
  case dup =>
    simp only [ve_pu] at h
    split at h
    · obtain ⟨rfl, rfl⟩ : lv = lv' ∧ _ = st' := by have h1 := Option.some.inj h; exact ⟨congrArg Prod.fst h1, congrArg Prod.snd h1⟩
      exact lv_dup hx hb hdg rfl (k ls hl)
    · obtain ⟨rfl, rfl⟩ : lv = lv' ∧ _ = st' := by have h1 := Option.some.inj h; exact ⟨congrArg Prod.fst h1, congrArg Prod.snd h1⟩
      exact lv_dup hx hb hdg rfl (k ls hl)
    · cases h
  case pop =>
    simp only [ve_pu] at h
    split at h
    · obtain ⟨rfl, rfl⟩ : lv = lv' ∧ _ = st' := by have h1 := Option.some.inj h; exact ⟨congrArg Prod.fst h1, congrArg Prod.snd h1⟩
      exact lv_pop hx hb hdg rfl (k ls hl)
    · obtain ⟨rfl, rfl⟩ : lv = lv' ∧ _ = st' := by have h1 := Option.some.inj h; exact ⟨congrArg Prod.fst h1, congrArg Prod.snd h1⟩
      exact lv_pop hx hb hdg rfl (k ls hl)
    · cases h
  case dup2 =>
    simp only [ve_pu] at h
    split at h
    · obtain ⟨rfl, rfl⟩ : lv = lv' ∧ _ = st' := by have h1 := Option.some.inj h; exact ⟨congrArg Prod.fst h1, congrArg Prod.snd h1⟩
      exact lv_dup2_2 hx hb hdg rfl (k ls hl)
    · obtain ⟨rfl, rfl⟩ : lv = lv' ∧ _ = st' := by have h1 := Option.some.inj h; exact ⟨congrArg Prod.fst h1, congrArg Prod.snd h1⟩
      exact lv_dup2_11 hx hb hdg rfl rfl (k ls hl)
    · cases h
  all_goals exact absurd (show none = some _ from h) (fun q => by cases q)
theorem ve_tg_ok {off : Int} {t : Nat} (h : ve_tg pc off = some t) : (pc : Int) + off = (t : Int) := by
  unfold ve_tg at h
  split at h
  · rename_i t' ht
    have h1 : t' = t := Option.some.inj h
    rw [ht, h1]
    rfl
  · cases h
theorem ve_if_ok {cd : ClassFile.Cond} (hx : p.tables.exec = Jvm.exec) (hb : c.code = cc) {x : Int32} {off : Int} {t : Nat} {rest : List Value} (hdg : decode cc pc = .ok (.ifCond cd off, 3)) (ht : (pc : Int) + off = (t : Int))
    (k : W p l e R s m args below meth c H locs cells slots Q (F0 m (ve_if cd x 0 t (pc + 3)) ls rest)) : W p l e R s m args below meth c H locs cells slots Q (F0 m pc ls (.int x :: rest)) := by
  cases cd
  case eq =>
    refine lv_if_eq hx hb hdg ht (fun q => ?_) (fun q => ?_)
    · simp only [ve_if, if_pos q] at k; exact k
    · simp only [ve_if, if_neg q] at k; exact k
  case ne =>
    refine lv_if_ne hx hb hdg ht (fun q => ?_) (fun q => ?_)
    · simp only [ve_if, if_neg q] at k; exact k
    · simp only [ve_if, if_pos q] at k; exact k
  case lt =>
    refine lv_if_lt hx hb hdg ht (fun q => ?_) (fun q => ?_)
    · simp only [ve_if, if_pos q] at k; exact k
    · simp only [ve_if, if_neg q] at k; exact k
  case ge =>
    refine lv_if_ge hx hb hdg ht (fun q => ?_) (fun q => ?_)
    · simp only [ve_if, if_pos q] at k; exact k
    · simp only [ve_if, if_neg q] at k; exact k
  case gt =>
    refine lv_if_gt hx hb hdg ht (fun q => ?_) (fun q => ?_)
    · simp only [ve_if, if_pos q] at k; exact k
    · simp only [ve_if, if_neg q] at k; exact k
  case le =>
    refine lv_if_le hx hb hdg ht (fun q => ?_) (fun q => ?_)
    · simp only [ve_if, if_pos q] at k; exact k
    · simp only [ve_if, if_neg q] at k; exact k
theorem ve_ic_ok {cd : ClassFile.Cond} (hx : p.tables.exec = Jvm.exec) (hb : c.code = cc) {x y : Int32} {off : Int} {t : Nat} {rest : List Value} (hdg : decode cc pc = .ok (.if_icmp cd off, 3)) (ht : (pc : Int) + off = (t : Int))
    (k : W p l e R s m args below meth c H locs cells slots Q (F0 m (ve_if cd x y t (pc + 3)) ls rest)) : W p l e R s m args below meth c H locs cells slots Q (F0 m pc ls (.int y :: .int x :: rest)) := by
  cases cd
  case eq =>
    refine lv_icmp_eq hx hb hdg ht (fun q => ?_) (fun q => ?_)
    · simp only [ve_if, if_pos q] at k; exact k
    · simp only [ve_if, if_neg q] at k; exact k
  case ne =>
    refine lv_icmp_ne hx hb hdg ht (fun q => ?_) (fun q => ?_)
    · simp only [ve_if, if_neg q] at k; exact k
    · simp only [ve_if, if_pos q] at k; exact k
  case lt =>
    refine lv_icmp_lt hx hb hdg ht (fun q => ?_) (fun q => ?_)
    · simp only [ve_if, if_pos q] at k; exact k
    · simp only [ve_if, if_neg q] at k; exact k
  case ge =>
    refine lv_icmp_ge hx hb hdg ht (fun q => ?_) (fun q => ?_)
    · simp only [ve_if, if_pos q] at k; exact k
    · simp only [ve_if, if_neg q] at k; exact k
  case gt =>
    refine lv_icmp_gt hx hb hdg ht (fun q => ?_) (fun q => ?_)
    · simp only [ve_if, if_pos q] at k; exact k
    · simp only [ve_if, if_neg q] at k; exact k
  case le =>
    refine lv_icmp_le hx hb hdg ht (fun q => ?_) (fun q => ?_)
    · simp only [ve_if, if_pos q] at k; exact k
    · simp only [ve_if, if_neg q] at k; exact k
set_option maxHeartbeats 4000000 in
theorem ve_jp_ok (hx : p.tables.exec = Jvm.exec) (hb : c.code = cc) {i : Instr} {len pc' : Nat} {st st' : List Value} (hdg : decode cc pc = .ok (i, len)) (hln : ve_lnb i len = true) (h : ve_jp i pc st = some (pc', st'))
    (k : W p l e R s m args below meth c H locs cells slots Q (F0 m pc' ls (st'.map (ve_cv ad)))) : W p l e R s m args below meth c H locs cells slots Q (F0 m pc ls (st.map (ve_cv ad))) := by
  have pr : ∀ {t : Nat} {r : List Value}, some (t, r) = some (pc', st') → t = pc' ∧ r = st' := fun q => ⟨congrArg Prod.fst (Option.some.inj q), congrArg Prod.snd (Option.some.inj q)⟩
  cases i
  case goto off =>
    obtain rfl : len = 3 := Nat.eq_of_beq_eq_true hln
    simp only [ve_jp] at h
    split at h
    · rename_i t ht
      obtain ⟨rfl, rfl⟩ := pr h
      exact lv_goto hx hb hdg (ve_tg_ok ht) k
    · cases h
  case ifCond cd off =>
    obtain rfl : len = 3 := Nat.eq_of_beq_eq_true hln
    simp only [ve_jp] at h
    split at h
    · split at h
      · rename_i t ht
        obtain ⟨rfl, rfl⟩ := pr h
        exact ve_if_ok hx hb hdg (ve_tg_ok ht) k
      · cases h
    · cases h
  case if_icmp cd off =>
    obtain rfl : len = 3 := Nat.eq_of_beq_eq_true hln
    simp only [ve_jp] at h
    split at h
    · split at h
      · rename_i t ht
        obtain ⟨rfl, rfl⟩ := pr h
        exact ve_ic_ok hx hb hdg (ve_tg_ok ht) k
      · cases h
    · cases h
  case tableswitch d lo hi offs =>
    simp only [ve_jp] at h
    split at h
    · split at h
      · rename_i hout
        split at h
        · rename_i t ht
          obtain ⟨rfl, rfl⟩ := pr h
          exact lv_tableOut hx hb hdg hout (ve_tg_ok ht) k
        · cases h
      · rename_i hout
        split at h
        · rename_i off hoff
          split at h
          · rename_i t ht
            obtain ⟨rfl, rfl⟩ := pr h
            exact lv_tableIn hx hb hdg (fun q => hout (Or.inl q)) (fun q => hout (Or.inr q)) hoff (ve_tg_ok ht) k
          · cases h
        · cases h
    · cases h
  case lookupswitch d ps =>
    simp only [ve_jp] at h
    split at h
    · cases hp : (ps.toList.zip (ps.toList.drop 1)).all (fun (a, next) => a.1 < next.1) with
      | false => rw [hp] at h; cases h
      | true =>
        rw [hp] at h
        simp only [cond_true] at h
        split at h
        · rename_i t ht
          obtain ⟨rfl, rfl⟩ := pr h
          exact lv_lookup hx hb hdg hp rfl (ve_tg_ok ht) k
        · cases h
    · cases h
  all_goals exact absurd (show none = some _ from h) (fun q => by cases q)
end VEP
