/-! All instructions on the heap at once -/
section VEI
variable {p : Program} {l : Launch} {e : Env} {R : Room} {s : State} {m : MethodId} {args : Array Value} {below : List Frame} {meth : Method} {c : Code} {H : Heap} {locs : List Loc} {Q : State → Prop}
variable {cc : ByteArray} {pc : Nat} {ls : Array Slot} {G : ve_G} {own : Nat} {h h' : ve_H} {st st' : List Value} {n0 u0 d : Nat} {ini : Bool}
/-- where the walk goes on -/
abbrev ve_K (p : Program) (l : Launch) (e : Env) (R : Room) (s : State) (m : MethodId) (args : Array Value) (below : List Frame) (meth : Method) (c : Code) (Q : State → Prop) (G : ve_G) (h' : ve_H) (n0 u0 : Nat) (g : JFrame) : Prop :=
  ∀ (H' : Heap) (locs' : List Loc), ve_P G h' H' → (∀ q ∈ locs', ve_gB G ≤ q.base) → W p l e R s m args below meth c H' locs' (ve_n h' - n0) (ve_u h' - u0) Q g
theorem ve_pr2 {x x' : List Value} {y y' : ve_H} (h : some (x, y) = some (x', y')) : x = x' ∧ y = y' := ⟨congrArg Prod.fst (Option.some.inj h), congrArg Prod.snd (Option.some.inj h)⟩
theorem ve_cond_t {α : Type} {b : Bool} {x : Option α} {y : α} (h : (bif b then x else none) = some y) : b = true ∧ x = some y := by
  cases b with
  | true => exact ⟨rfl, h⟩
  | false => cases h
theorem ve_ite_f {α : Type} {q : Prop} [Decidable q] {x : Option α} {y : α} (h : (if q then none else x) = some y) : ¬ q ∧ x = some y := by
  by_cases hq : q
  · rw [if_pos hq] at h; cases h
  · rw [if_neg hq] at h; exact ⟨hq, h⟩
theorem ve_ite_t {α : Type} {q : Prop} [Decidable q] {x : Option α} {y : α} (h : (if q then x else none) = some y) : q ∧ x = some y := by
  by_cases hq : q
  · rw [if_pos hq] at h; exact ⟨hq, h⟩
  · rw [if_neg hq] at h; cases h
theorem ve_getfield_ok (hx : p.tables.exec = Jvm.exec) (hb : c.code = cc) (hok : ve_ok G s) (hown : s.vm.findClass (ve_nm own) = some m.cls) (hP : ve_P G h H) (hlo : ∀ q ∈ locs, ve_gB G ≤ q.base) {idx : Nat}
    (hdg : decode cc pc = .ok (.getfield idx, 3)) (he : ve_h_getfield own idx st h = some (st', h'))
    (k : ve_K p l e R s m args below meth c Q G h' n0 u0 (F0 m (pc + 3) ls (st'.map (ve_cv (ve_ga G))))) : W p l e R s m args below meth c H locs (ve_n h - n0) (ve_u h - u0) Q (F0 m pc ls (st.map (ve_cv (ve_ga G)))) := by
  unfold ve_h_getfield at he
  split at he
  · split at he
    · rename_i a r _ kd kk fin hf
      obtain ⟨hk, he⟩ := ve_cond_t he
      refine ve_getc hx hb hok hown hP hf (Nat.eq_of_beq_eq_true hk) hdg ?_
      split at he
      · rename_i ht
        obtain ⟨rfl, rfl⟩ := ve_pr2 he
        rw [ht]
        exact k H locs hP hlo
      · rename_i ht
        obtain ⟨rfl, rfl⟩ := ve_pr2 he
        rw [ht]
        exact k H locs hP hlo
      · rename_i ht
        split at he
        · rename_i b hb2
          obtain ⟨rfl, rfl⟩ := ve_pr2 he
          rw [ht]
          have e : ve_vl (ve_ga G) h a 2 kk = .ref (ve_ga G b) := by
            show va_rf ((ve_R h a kk).map (ve_ga G)) = _
            rw [hb2]
            rfl
          rw [e]
          exact k H locs hP hlo
        · cases he
      · rename_i ht
        obtain ⟨rfl, rfl⟩ := ve_pr2 he
        rw [ht]
        exact k H locs hP hlo
      · cases he
    · cases he
  · cases he
theorem ve_tcb0 {t : Nat} {ty : FieldType} (h : ve_tcb t ty = true) : (t = 0 → ty = .int) ∧ (t = 1 → ty = .long) ∧ (t = 3 → ty = .boolean) ∧ (t = 2 → (∃ n, ty = .object n) ∨ ∃ n, ty = .array n) := by
  unfold ve_tcb at h
  split at h
  · exact ⟨fun _ => rfl, fun q => absurd q (by decide), fun q => absurd q (by decide), fun q => absurd q (by decide)⟩
  · exact ⟨fun q => absurd q (by decide), fun _ => rfl, fun q => absurd q (by decide), fun q => absurd q (by decide)⟩
  · exact ⟨fun q => absurd q (by decide), fun q => absurd q (by decide), fun q => absurd q (by decide), fun _ => Or.inl ⟨_, rfl⟩⟩
  · exact ⟨fun q => absurd q (by decide), fun q => absurd q (by decide), fun q => absurd q (by decide), fun _ => Or.inr ⟨_, rfl⟩⟩
  · exact ⟨fun q => absurd q (by decide), fun q => absurd q (by decide), fun _ => rfl, fun q => absurd q (by decide)⟩
  · cases h
theorem ve_tyk {idx kd k : Nat} {fin : Bool} (hf : ve_as (ve_fo own) idx = some (kd, k, fin)) : ve_tcb ((ve_tc kd).getD k 9) (ve_ty kd k) = true := by
  obtain ⟨c1, c2, c3, c4, c5⟩ := ve_ckf_at hf
  have h9 := (ve_ckc_ty c1 (by omega) k c3).2
  rw [ve_tcx9 c2] at h9
  exact h9
theorem ve_putfield_ok (hx : p.tables.exec = Jvm.exec) (hb : c.code = cc) (hok : ve_ok G s) (hown : s.vm.findClass (ve_nm own) = some m.cls) (hini : ini = true → meth.name = "<init>") (hP : ve_P G h H) (hlo : ∀ q ∈ locs, ve_gB G ≤ q.base) {idx : Nat}
    (hdg : decode cc pc = .ok (.putfield idx, 3)) (he : ve_h_putfield own ini idx st h = some (st', h'))
    (k : ve_K p l e R s m args below meth c Q G h' n0 u0 (F0 m (pc + 3) ls (st'.map (ve_cv (ve_ga G))))) : W p l e R s m args below meth c H locs (ve_n h - n0) (ve_u h - u0) Q (F0 m pc ls (st.map (ve_cv (ve_ga G)))) := by
  unfold ve_h_putfield at he
  split at he
  · rename_i v a r
    split at he
    · rename_i kd kk fin hf
      obtain ⟨hk, he⟩ := ve_cond_t he
      obtain ⟨hk, hfin⟩ := ve_put_b hk
      have ht9 := ve_tcb0 (ve_tyk hf)
      split at he
      · rename_i ht
        obtain ⟨rfl, rfl⟩ := ve_pr2 he
        have e1 := ht9.1 ht
        exact ve_putc hx hb hok hown hini hP hlo hf hk hfin (v := .int v) (by rw [e1]; rfl) (by rw [e1]; rfl) (by rw [ht]; exact ve_up_I h a kk 0 v ⟨by decide, by decide⟩) hdg k
      · rename_i ht
        obtain ⟨h01, he⟩ := ve_ite_t he
        obtain ⟨rfl, rfl⟩ := ve_pr2 he
        have e1 := ht9.2.2.1 ht
        exact ve_putc hx hb hok hown hini hP hlo hf hk hfin (v := .int v) (by rw [e1]; exact (ve_b01 h01).1) (by rw [e1]; exact (ve_b01 h01).2) (by rw [ht]; exact ve_up_I h a kk 3 v ⟨by decide, by decide⟩) hdg k
      · cases he
    · cases he
  · rename_i v a r
    split at he
    · rename_i kd kk fin hf
      obtain ⟨hk, he⟩ := ve_cond_t he
      obtain ⟨hk, hfin⟩ := ve_put_b hk
      have ht9 := ve_tcb0 (ve_tyk hf)
      split at he
      · rename_i ht
        obtain ⟨rfl, rfl⟩ := ve_pr2 he
        have e1 := ht9.2.1 ht
        exact ve_putc hx hb hok hown hini hP hlo hf hk hfin (v := .long v) (by rw [e1]; rfl) (by rw [e1]; rfl) (by rw [ht]; exact ve_up_L h a kk v) hdg k
      · cases he
    · cases he
  · rename_i b a r
    split at he
    · rename_i kd kk fin hf
      obtain ⟨hk, he⟩ := ve_cond_t he
      obtain ⟨hk, hfin⟩ := ve_put_b hk
      have ht9 := ve_tcb0 (ve_tyk hf)
      split at he
      · rename_i ht
        obtain ⟨rfl, rfl⟩ := ve_pr2 he
        have e1 := ht9.2.2.2 ht
        exact ve_putc hx hb hok hown hini hP hlo hf hk hfin (v := .ref (ve_ga G b)) (by rcases e1 with ⟨n, e1⟩ | ⟨n, e1⟩ <;> rw [e1] <;> rfl) (by rcases e1 with ⟨n, e1⟩ | ⟨n, e1⟩ <;> rw [e1] <;> rfl) (by rw [ht]; exact ve_up_R h a kk b) hdg k
      · cases he
    · cases he
  · cases he
theorem ve_alen_ok (hx : p.tables.exec = Jvm.exec) (hb : c.code = cc) (hok : ve_ok G s) (hP : ve_P G h H) (hlo : ∀ q ∈ locs, ve_gB G ≤ q.base)
    (hdg : decode cc pc = .ok (.arraylength, 1)) (he : ve_h_arraylength st h = some (st', h'))
    (k : ve_K p l e R s m args below meth c Q G h' n0 u0 (F0 m (pc + 1) ls (st'.map (ve_cv (ve_ga G))))) : W p l e R s m args below meth c H locs (ve_n h - n0) (ve_u h - u0) Q (F0 m pc ls (st.map (ve_cv (ve_ga G)))) := by
  unfold ve_h_arraylength at he
  split at he
  · rename_i a r
    obtain ⟨hk, he⟩ := ve_cond_t he
    obtain ⟨rfl, rfl⟩ := ve_pr2 he
    have hk := Nat.le_of_ble_eq_true hk
    rcases (hP.2.2.2.2.1 a (by omega)).2 with ⟨-, x, -⟩ | ⟨x1, x2, x3⟩ | ⟨x1, x2, x3, x4⟩
    · omega
    · obtain ⟨ty, hty⟩ : ∃ ty, ve_aty (ve_k h a) = some ty := by
        have : ve_k h a = 20 ∨ ve_k h a = 21 ∨ ve_k h a = 22 ∨ ve_k h a = 23 ∨ ve_k h a = 24 := by omega
        rcases this with q | q | q | q | q <;> rw [q] <;> exact ⟨_, rfl⟩
      exact W.alen (n := Int32.ofNat (ve_z h a)) hx hb x3 ((hok.2.2.1 _ ty hty).1 _ _) (by rw [arrV_size] <;> rfl) rfl rfl hdg (k H locs hP hlo)
    · exact W.alen (n := Int32.ofNat (ve_z h a)) hx hb x2 hok.2.2.2.2.1 (by rw [x3] <;> rfl) rfl rfl hdg (k H locs hP hlo)
  · cases he
theorem ve_iald_ok (hx : p.tables.exec = Jvm.exec) (hb : c.code = cc) (hok : ve_ok G s) (hP : ve_P G h H) (hlo : ∀ q ∈ locs, ve_gB G ≤ q.base)
    (hdg : decode cc pc = .ok (.iaload, 1)) (he : ve_h_iaload st h = some (st', h'))
    (k : ve_K p l e R s m args below meth c Q G h' n0 u0 (F0 m (pc + 1) ls (st'.map (ve_cv (ve_ga G))))) : W p l e R s m args below meth c H locs (ve_n h - n0) (ve_u h - u0) Q (F0 m pc ls (st.map (ve_cv (ve_ga G)))) := by
  unfold ve_h_iaload at he
  split at he
  · rename_i i a r
    obtain ⟨hk, he⟩ := ve_cond_t he
    obtain ⟨hin, he⟩ := ve_ite_f he
    obtain ⟨rfl, rfl⟩ := ve_pr2 he
    have hlt : i.toNatClampNeg < ve_z h a := Nat.not_le.mp fun q => hin (Or.inr q)
    simp only [Bool.or_eq_true] at hk
    rcases hk with hk | hk
    · have hk := Nat.eq_of_beq_eq_true hk
      obtain ⟨-, x⟩ := ve_ar hP hk (by decide) (by decide)
      exact W.iald (v := .int (ve_I h a i.toNatClampNeg)) hx hb x ((hok.2.2.1 20 .int rfl).1 _ _) (ve_unk _ _ _) (by rw [arrV_size]; exact hin) (by rw [arrV_read _ _ hlt]; rfl) rfl rfl hdg (k H locs hP hlo)
    · have hk := Nat.eq_of_beq_eq_true hk
      rcases (hP.2.2.2.2.1 a (by omega)).2 with ⟨-, x, -⟩ | ⟨-, x, -⟩ | ⟨x1, x2, x3, x4⟩
      · omega
      · omega
      · have h9 := x4 _ hlt
        rw [hk] at h9
        exact W.iald (v := .int (ve_I h a i.toNatClampNeg)) hx hb x2 hok.2.2.2.2.1 hok.2.2.2.2.2.1 (by rw [x3]; exact hin) h9 rfl rfl hdg (k H locs hP hlo)
  · cases he
theorem ve_bald_ok (hx : p.tables.exec = Jvm.exec) (hb : c.code = cc) (hok : ve_ok G s) (hP : ve_P G h H) (hlo : ∀ q ∈ locs, ve_gB G ≤ q.base)
    (hdg : decode cc pc = .ok (.baload, 1)) (he : ve_h_baload st h = some (st', h'))
    (k : ve_K p l e R s m args below meth c Q G h' n0 u0 (F0 m (pc + 1) ls (st'.map (ve_cv (ve_ga G))))) : W p l e R s m args below meth c H locs (ve_n h - n0) (ve_u h - u0) Q (F0 m pc ls (st.map (ve_cv (ve_ga G)))) := by
  unfold ve_h_baload at he
  split at he
  · rename_i i a r
    obtain ⟨hk, he⟩ := ve_cond_t he
    obtain ⟨hin, he⟩ := ve_ite_f he
    obtain ⟨rfl, rfl⟩ := ve_pr2 he
    have hlt : i.toNatClampNeg < ve_z h a := Nat.not_le.mp fun q => hin (Or.inr q)
    simp only [Bool.or_eq_true] at hk
    rcases hk with hk | hk
    · have hk := Nat.eq_of_beq_eq_true hk
      obtain ⟨-, x⟩ := ve_ar hP hk (by decide) (by decide)
      exact W.bald (v := .int (ve_I h a i.toNatClampNeg)) hx hb x ((hok.2.2.1 22 .byte rfl).1 _ _) (ve_unk _ _ _) (by rw [arrV_size]; exact hin) (by rw [arrV_read _ _ hlt]; rfl) rfl rfl hdg (k H locs hP hlo)
    · have hk := Nat.eq_of_beq_eq_true hk
      obtain ⟨-, x⟩ := ve_ar hP hk (by decide) (by decide)
      exact W.zald (v := .int (ve_I h a i.toNatClampNeg)) hx hb x ((hok.2.2.1 23 .boolean rfl).1 _ _) (ve_unk _ _ _) (by rw [arrV_size]; exact hin) (by rw [arrV_read _ _ hlt]; rfl) rfl rfl hdg (k H locs hP hlo)
  · cases he
theorem ve_lald_ok (hx : p.tables.exec = Jvm.exec) (hb : c.code = cc) (hok : ve_ok G s) (hP : ve_P G h H) (hlo : ∀ q ∈ locs, ve_gB G ≤ q.base)
    (hdg : decode cc pc = .ok (.laload, 1)) (he : ve_h_laload st h = some (st', h'))
    (k : ve_K p l e R s m args below meth c Q G h' n0 u0 (F0 m (pc + 1) ls (st'.map (ve_cv (ve_ga G))))) : W p l e R s m args below meth c H locs (ve_n h - n0) (ve_u h - u0) Q (F0 m pc ls (st.map (ve_cv (ve_ga G)))) := by
  unfold ve_h_laload at he
  split at he
  · rename_i i a r
    obtain ⟨hk, he⟩ := ve_cond_t he
    obtain ⟨hin, he⟩ := ve_ite_f he
    obtain ⟨rfl, rfl⟩ := ve_pr2 he
    have hlt : i.toNatClampNeg < ve_z h a := Nat.not_le.mp fun q => hin (Or.inr q)
    have hk := Nat.eq_of_beq_eq_true hk
    obtain ⟨-, x⟩ := ve_ar hP hk (by decide) (by decide)
    exact W.lald (v := .long (ve_L h a i.toNatClampNeg)) hx hb x ((hok.2.2.1 21 .long rfl).1 _ _) (ve_unk _ _ _) (by rw [arrV_size]; exact hin) (by rw [arrV_read _ _ hlt]; rfl) rfl rfl hdg (k H locs hP hlo)
  · cases he
theorem ve_aald_ok (hx : p.tables.exec = Jvm.exec) (hb : c.code = cc) (hok : ve_ok G s) (hP : ve_P G h H) (hlo : ∀ q ∈ locs, ve_gB G ≤ q.base)
    (hdg : decode cc pc = .ok (.aaload, 1)) (he : ve_h_aaload st h = some (st', h'))
    (k : ve_K p l e R s m args below meth c Q G h' n0 u0 (F0 m (pc + 1) ls (st'.map (ve_cv (ve_ga G))))) : W p l e R s m args below meth c H locs (ve_n h - n0) (ve_u h - u0) Q (F0 m pc ls (st.map (ve_cv (ve_ga G)))) := by
  unfold ve_h_aaload at he
  split at he
  · rename_i i a r
    obtain ⟨hk, he⟩ := ve_cond_t he
    obtain ⟨hin, he⟩ := ve_ite_f he
    split at he
    · rename_i b hb2
      obtain ⟨rfl, rfl⟩ := ve_pr2 he
      have hlt : i.toNatClampNeg < ve_z h a := Nat.not_le.mp fun q => hin (Or.inr q)
      have hk := Nat.eq_of_beq_eq_true hk
      obtain ⟨-, x⟩ := ve_ar hP hk (by decide) (by decide)
      refine W.aald (v := .ref (ve_ga G b)) hx hb x ((hok.2.2.1 24 (.object "RuleHouse$Rule") rfl).1 _ _) rfl (ve_unk _ _ _) (by rw [arrV_size]; exact hin) ?_ rfl rfl hdg (k H locs hP hlo)
      rw [arrV_read _ _ hlt]
      show some (va_rf ((ve_R h a i.toNatClampNeg).map (ve_ga G))) = _
      rw [hb2]
      rfl
    · cases he
  · cases he
theorem ve_iast_ok (hx : p.tables.exec = Jvm.exec) (hb : c.code = cc) (hok : ve_ok G s) (hP : ve_P G h H) (hlo : ∀ q ∈ locs, ve_gB G ≤ q.base)
    (hdg : decode cc pc = .ok (.iastore, 1)) (he : ve_h_iastore st h = some (st', h'))
    (k : ve_K p l e R s m args below meth c Q G h' n0 u0 (F0 m (pc + 1) ls (st'.map (ve_cv (ve_ga G))))) : W p l e R s m args below meth c H locs (ve_n h - n0) (ve_u h - u0) Q (F0 m pc ls (st.map (ve_cv (ve_ga G)))) := by
  unfold ve_h_iastore at he
  split at he
  · rename_i v i a r
    obtain ⟨hk, he⟩ := ve_cond_t he
    obtain ⟨hin, he⟩ := ve_ite_f he
    obtain ⟨rfl, rfl⟩ := ve_pr2 he
    have hk := Nat.eq_of_beq_eq_true hk
    obtain ⟨ha0, x⟩ := ve_ar hP hk (by decide) (by decide)
    refine W.iast hx hb x ((hok.2.2.1 20 .int rfl).1 _ _) (ve_unk _ _ _) (by rw [arrV_size]; exact hin) rfl rfl hdg fun H1 e1 e2 e3 => ?_
    exact k H1 _ (ve_stP hP hk (by decide) (by decide) (ve_up_I h a i.toNatClampNeg 0 v ⟨by decide, by decide⟩) e1 e2 e3) (ve_lo1 hlo ha0)
  · cases he
theorem ve_bast_ok (hx : p.tables.exec = Jvm.exec) (hb : c.code = cc) (hok : ve_ok G s) (hP : ve_P G h H) (hlo : ∀ q ∈ locs, ve_gB G ≤ q.base)
    (hdg : decode cc pc = .ok (.bastore, 1)) (he : ve_h_bastore st h = some (st', h'))
    (k : ve_K p l e R s m args below meth c Q G h' n0 u0 (F0 m (pc + 1) ls (st'.map (ve_cv (ve_ga G))))) : W p l e R s m args below meth c H locs (ve_n h - n0) (ve_u h - u0) Q (F0 m pc ls (st.map (ve_cv (ve_ga G)))) := by
  unfold ve_h_bastore at he
  split at he
  · rename_i v i a r
    cases hk : (ve_k h a).beq 22 with
    | true =>
      rw [hk] at he
      obtain ⟨hin, he⟩ := ve_ite_f he
      obtain ⟨rfl, rfl⟩ := ve_pr2 he
      have hk := Nat.eq_of_beq_eq_true hk
      obtain ⟨ha0, x⟩ := ve_ar hP hk (by decide) (by decide)
      refine W.bast hx hb x ((hok.2.2.1 22 .byte rfl).1 _ _) (ve_unk _ _ _) (by rw [arrV_size]; exact hin) rfl rfl hdg fun H1 e1 e2 e3 => ?_
      exact k H1 _ (ve_stP hP hk (by decide) (by decide) (ve_up_I h a i.toNatClampNeg 0 v.toInt8.toInt32 ⟨by decide, by decide⟩) e1 e2 e3) (ve_lo1 hlo ha0)
    | false =>
      rw [hk] at he
      obtain ⟨hk, he⟩ := ve_cond_t he
      obtain ⟨hin, he⟩ := ve_ite_f he
      obtain ⟨h01, he⟩ := ve_ite_t he
      obtain ⟨rfl, rfl⟩ := ve_pr2 he
      have hk := Nat.eq_of_beq_eq_true hk
      obtain ⟨ha0, x⟩ := ve_ar hP hk (by decide) (by decide)
      refine W.zast hx hb x ((hok.2.2.1 23 .boolean rfl).1 _ _) (ve_unk _ _ _) (by rw [arrV_size]; exact hin) rfl rfl hdg fun H1 e1 e2 e3 => ?_
      rw [(ve_b01 h01).1] at e1
      exact k H1 _ (ve_stP hP hk (by decide) (by decide) (ve_up_I h a i.toNatClampNeg 0 v ⟨by decide, by decide⟩) e1 e2 e3) (ve_lo1 hlo ha0)
  · cases he
theorem ve_last_ok (hx : p.tables.exec = Jvm.exec) (hb : c.code = cc) (hok : ve_ok G s) (hP : ve_P G h H) (hlo : ∀ q ∈ locs, ve_gB G ≤ q.base)
    (hdg : decode cc pc = .ok (.lastore, 1)) (he : ve_h_lastore st h = some (st', h'))
    (k : ve_K p l e R s m args below meth c Q G h' n0 u0 (F0 m (pc + 1) ls (st'.map (ve_cv (ve_ga G))))) : W p l e R s m args below meth c H locs (ve_n h - n0) (ve_u h - u0) Q (F0 m pc ls (st.map (ve_cv (ve_ga G)))) := by
  unfold ve_h_lastore at he
  split at he
  · rename_i v i a r
    obtain ⟨hk, he⟩ := ve_cond_t he
    obtain ⟨hin, he⟩ := ve_ite_f he
    obtain ⟨rfl, rfl⟩ := ve_pr2 he
    have hk := Nat.eq_of_beq_eq_true hk
    obtain ⟨ha0, x⟩ := ve_ar hP hk (by decide) (by decide)
    refine W.last hx hb x ((hok.2.2.1 21 .long rfl).1 _ _) (ve_unk _ _ _) (by rw [arrV_size]; exact hin) rfl rfl hdg fun H1 e1 e2 e3 => ?_
    exact k H1 _ (ve_stP hP hk (by decide) (by decide) (ve_up_L h a i.toNatClampNeg v) e1 e2 e3) (ve_lo1 hlo ha0)
  · cases he
theorem ve_aast_ok (hx : p.tables.exec = Jvm.exec) (hb : c.code = cc) (hok : ve_ok G s) (hP : ve_P G h H) (hlo : ∀ q ∈ locs, ve_gB G ≤ q.base)
    (hdg : decode cc pc = .ok (.aastore, 1)) (he : ve_h_aastore st h = some (st', h'))
    (k : ve_K p l e R s m args below meth c Q G h' n0 u0 (F0 m (pc + 1) ls (st'.map (ve_cv (ve_ga G))))) : W p l e R s m args below meth c H locs (ve_n h - n0) (ve_u h - u0) Q (F0 m pc ls (st.map (ve_cv (ve_ga G)))) := by
  unfold ve_h_aastore at he
  split at he
  · rename_i v i a r
    obtain ⟨hk, he⟩ := ve_cond_t he
    obtain ⟨hin, he⟩ := ve_ite_f he
    obtain ⟨rfl, rfl⟩ := ve_pr2 he
    simp only [Bool.and_eq_true] at hk
    have hkv := Nat.eq_of_beq_eq_true hk.2
    have hk := Nat.eq_of_beq_eq_true hk.1
    obtain ⟨ha0, x⟩ := ve_ar hP hk (by decide) (by decide)
    obtain ⟨-, cellV, g1, g2, g3, -⟩ := ve_ob hP hkv (by decide) (by decide)
    have hcls := (hok.2.1 7 (by decide) (by decide)).2
    obtain ⟨kA, k1, k2⟩ := hok.2.2.2.1
    obtain ⟨kC, hkC, -⟩ := hcls.2
    have hlt : i.toNatClampNeg < ve_z h a := Nat.not_le.mp fun q => hin (Or.inr q)
    have h0 : ¬ i < 0 := fun q => hin (Or.inl q)
    refine W.aast hx hb x (fun q hq => by cases hq) (ve_unk _ _ _) k1 k2 rfl hkC ⟨h0, by rw [arrV_size]; exact hlt⟩ g1 (fun q hq => by rw [g3] at hq; cases hq) (by rw [g2]; exact hkC) (by rw [g2]; exact va_assign hcls) rfl rfl hdg fun H1 e1 e2 e3 => ?_
    exact k H1 _ (ve_stP hP hk (by decide) (by decide) (ve_up_R h a i.toNatClampNeg v) e1 e2 e3) (ve_lo1 hlo ha0)
  · cases he
theorem ve_ldc_ok (hx : p.tables.exec = Jvm.exec) (hb : c.code = cc) (hok : ve_ok G s) (hown : s.vm.findClass (ve_nm own) = some m.cls) (hP : ve_P G h H) (hlo : ∀ q ∈ locs, ve_gB G ≤ q.base) {idx : Nat}
    (hdg : decode cc pc = .ok (.ldc2_w idx, 3)) (he : ve_h_ldc2_w own idx st h = some (st', h'))
    (k : ve_K p l e R s m args below meth c Q G h' n0 u0 (F0 m (pc + 3) ls (st'.map (ve_cv (ve_ga G))))) : W p l e R s m args below meth c H locs (ve_n h - n0) (ve_u h - u0) Q (F0 m pc ls (st.map (ve_cv (ve_ga G)))) := by
  unfold ve_h_ldc2_w at he
  split at he
  · rename_i v hv
    obtain ⟨rfl, rfl⟩ := ve_pr2 he
    exact lv_ldc2 hx hb hown (hok.w (ve_ckl_at hv) args) hdg (k H locs hP hlo)
  · cases he
end VEI
