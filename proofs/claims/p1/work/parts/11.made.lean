/-! Making objects and arrays; all instructions on the heap -/
section VEJ
variable {p : Program} {l : Launch} {e : Env} {R : Room} {s : State} {m : MethodId} {args : Array Value} {below : List Frame} {meth : Method} {c : Code} {H : Heap} {locs : List Loc} {Q : State → Prop}
variable {cc : ByteArray} {pc : Nat} {ls : Array Slot} {G : ve_G} {own : Nat} {h h' : ve_H} {st st' : List Value} {n0 u0 d : Nat} {ini : Bool}
def ve_df (t : Nat) : Value := match t with
  | 1 => .long 0
  | 2 => .null
  | _ => .int 0
theorem ve_vl0 (hP : ve_P G h H) (t j : Nat) : ve_vl (ve_ga G) h (ve_n h) t j = ve_df t := by
  obtain ⟨e1, e2, e3⟩ := hP.2.2.2.2.2.1 (ve_n h) (Nat.le_refl _) j
  unfold ve_vl ve_df
  split
  · rw [e2]; rfl
  · rw [e3]; rfl
  · rename_i h1 h2
    rw [e1]
    split
    · exact absurd rfl h1
    · exact absurd rfl h2
    · rfl
theorem ve_dv {t : Nat} {ty : FieldType} (h : ve_tcb t ty = true) : defaultValue ty = ve_df t := by
  unfold ve_tcb at h
  split at h <;> first | rfl | cases h
theorem ve_rk_ok {z : Nat} (hr : ve_rk h z = true) (hR : ve_rm R d n0 u0) (h1 : n0 ≤ ve_n h) (h2 : u0 ≤ ve_u h) : (ve_n h - n0) + 1 ≤ R.cells ∧ (ve_u h - u0) + z ≤ R.slots := by
  unfold ve_rk at hr
  simp only [Bool.and_eq_true] at hr
  have a1 := Nat.le_of_ble_eq_true hr.1
  have a2 := Nat.le_of_ble_eq_true hr.2
  obtain ⟨-, r1, r2, -⟩ := hR
  rw [r1, r2]
  omega
set_option maxRecDepth 100000 in
theorem ve_no6k : (List.range 16).all (fun own => (ve_no own).all (fun q => !(Nat.ble 10 q.2.1) || q.2.2.beq 6)) = true := by decide +kernel
theorem ve_no6 {idx kd z : Nat} (hf : ve_as (ve_no own) idx = some (kd, z)) (h10 : 10 ≤ kd) : z = 6 := by
  have h1 := ve_as_mem _ _ _ hf
  by_cases ho : own < 16
  · have h2 := List.all_eq_true.mp (List.all_eq_true.mp ve_no6k own (List.mem_range.mpr ho)) _ h1
    simp only [Bool.or_eq_true] at h2
    rcases h2 with h2 | h2
    · rw [Nat.ble_eq_true_of_le h10] at h2
      cases h2
    · exact Nat.eq_of_beq_eq_true h2
  · rw [ve_no_big (by omega)] at h1
    cases h1
theorem ve_new_ok (hx : p.tables.exec = Jvm.exec) (hb : c.code = cc) (hok : ve_ok G s) (hown : s.vm.findClass (ve_nm own) = some m.cls) (hP : ve_P G h H) (hlo : ∀ q ∈ locs, ve_gB G ≤ q.base) (hR : ve_rm R d n0 u0) (h1 : n0 ≤ ve_n h) (h2 : u0 ≤ ve_u h) {idx : Nat}
    (hdg : decode cc pc = .ok (.new idx, 3)) (he : ve_h_new own idx st h = some (st', h'))
    (k : ve_K p l e R s m args below meth c Q G h' n0 u0 (F0 m (pc + 3) ls (st'.map (ve_cv (ve_ga G))))) : W p l e R s m args below meth c H locs (ve_n h - n0) (ve_u h - u0) Q (F0 m pc ls (st.map (ve_cv (ve_ga G)))) := by
  unfold ve_h_new at he
  split at he
  · rename_i kd z hf
    obtain ⟨hr, he⟩ := ve_cond_t he
    obtain ⟨rfl, rfl⟩ := ve_pr2 he
    have hck := ve_ckn_at hf
    unfold ve_ckn at hck
    simp only [Bool.and_eq_true] at hck
    obtain ⟨a1, a2, a3, a4, a5, a6⟩ := hck
    have a1 : 1 ≤ kd := Nat.le_of_ble_eq_true a1
    have a2 : kd ≤ 12 := Nat.le_of_ble_eq_true a2
    have hKn := hok.2.1 kd a1 a2
    obtain ⟨r1, r2⟩ := ve_rk_ok hr hR h1 h2
    refine W.newcK hx hb hown (hok.w a3 args) (hok.w a4 args) (hok.w a5 args) rfl hdg r1 r2 hKn.2.1 rfl fun H1 kC hkC e1 z1 o1 => ?_
    have hsz := hP.2.2.1
    have k1 := k H1 locs (hP.new (by omega) (Or.inl ⟨a1, a2, ?_, ?_⟩) z1 o1) hlo
    · have e5 : ve_n (ve_new h kd z) - n0 = (ve_n h - n0) + 1 := by rw [ve_n_new]; omega
      have e6 : ve_u (ve_new h kd z) - u0 = (ve_u h - u0) + z := by rw [ve_u_new]; omega
      rw [e5, e6] at k1
      have e7 : Value.ref H.size = ve_cv (ve_ga G) (.ref (ve_n h)) := by rw [hsz]; rfl
      rw [e7]
      exact k1
    · rw [← hsz]
      refine (u_born (ve_ty kd) (ve_lts hok a1 a2 args) (fun _ q => q) hKn hkC e1 (fun j hj => (ve_ckc_ty a1 a2 j hj).1)).to fun j hj => ?_
      show defaultValue (ve_ty kd j) = ve_vl (ve_ga G) h (ve_n h) (ve_tk kd j) j
      rw [ve_vl0 hP, ve_tk_x a2]
      exact ve_dv (ve_ckc_ty a1 a2 j hj).2
    · intro h10
      rw [← hsz]
      have hn1 : ve_nf kd = 1 := by
        have : kd = 10 ∨ kd = 11 ∨ kd = 12 := by omega
        rcases this with q | q | q <;> rw [q] <;> rfl
      have hty0 : ve_ty kd 0 = .object "java/lang/Object" := by
        have : kd = 10 ∨ kd = 11 ∨ kd = 12 := by omega
        rcases this with q | q | q <;> rw [q] <;> rfl
      obtain ⟨cell9, b1, -, -, b4⟩ := u_born (ve_ty kd) (ve_lts hok a1 a2 args) (fun _ q => q) hKn hkC e1 (fun j hj => (ve_ckc_ty a1 a2 j hj).1)
      have b5 := b4 0 (by rw [hn1]; decide)
      cases e1.symm.trans b1
      refine ⟨_, e1, rfl, ?_, by rw [b5]; show some (defaultValue (ve_ty kd 0)) = _; rw [hty0]; rfl⟩
      obtain ⟨c5, k5, hc5, hk5, -, -, -, hn5⟩ := Cond.instantiable_spec (hok.w a4 args)
      cases hc5.symm.trans hKn.2.1
      cases hk5.symm.trans hkC
      have hz6 : z = 6 := ve_no6 hf h10
      show (kC.instanceTypes.map defaultValue).size = 6
      rw [Array.size_map, hn5, hz6]
  · cases he
theorem ve_arr_new {kd z : Nat} {t : FieldType} {H1 : Heap} {cA : ClassId} (hok : ve_ok G s) (hP : ve_P G h H) (hkd : ve_aty kd = some t) (h20 : 20 ≤ kd ∧ kd ≤ 24) (hdv : ∀ j, defaultValue t = ve_vl (ve_ga G) h (ve_n h) (ve_tk kd j) j)
    (e1 : H1[H.size]? = some (arrV cA z (fun _ => defaultValue t))) (hc : s.vm.findClass ("[" ++ t.toString) = some cA) (z1 : H1.size = H.size + 1) (o1 : ∀ q, q < H.size → H1[q]? = H[q]?) : ve_P G (ve_new h kd z) H1 := by
  refine hP.new (by omega) (Or.inr (Or.inl ⟨h20.1, h20.2, ?_⟩)) z1 o1
  rw [← hP.2.2.1, e1]
  have e2 : cA = ve_gY G kd := Option.some.inj (hc.symm.trans (hok.2.2.1 kd t hkd).2)
  rw [e2]
  congr 2
  funext j
  exact hdv j
theorem ve_newarray_ok (hx : p.tables.exec = Jvm.exec) (hb : c.code = cc) (hok : ve_ok G s) (hP : ve_P G h H) (hlo : ∀ q ∈ locs, ve_gB G ≤ q.base) (hR : ve_rm R d n0 u0) (h1 : n0 ≤ ve_n h) (h2 : u0 ≤ ve_u h) {t : ArrayType}
    (hdg : decode cc pc = .ok (.newarray t, 2)) (he : ve_h_newarray t st h = some (st', h'))
    (k : ve_K p l e R s m args below meth c Q G h' n0 u0 (F0 m (pc + 2) ls (st'.map (ve_cv (ve_ga G))))) : W p l e R s m args below meth c H locs (ve_n h - n0) (ve_u h - u0) Q (F0 m pc ls (st.map (ve_cv (ve_ga G)))) := by
  unfold ve_h_newarray at he
  split at he
  · rename_i n r
    obtain ⟨hr, he⟩ := ve_cond_t he
    obtain ⟨hn, he⟩ := ve_ite_f he
    obtain ⟨rfl, rfl⟩ := ve_pr2 he
    simp only [Bool.and_eq_true] at hr
    obtain ⟨hk, hr, hb8⟩ := hr
    have hk := Nat.le_of_ble_eq_true hk
    have hb8 := Nat.le_of_ble_eq_true hb8
    obtain ⟨r1, r2⟩ := ve_rk_ok hr hR h1 h2
    have hsz := hP.2.2.1
    have fin : ∀ (ty : FieldType), newarray.typeOf t = ty → ve_aty (ve_nk t) = some ty → ve_gd (.arrayClass ty) = true → componentBytes ty ≤ 8 → ve_nk t ≤ 24 → (∀ j, defaultValue ty = ve_vl (ve_ga G) h (ve_n h) (ve_tk (ve_nk t) j) j) →
        W p l e R s m args below meth c H locs (ve_n h - n0) (ve_u h - u0) Q (F0 m pc ls ((Value.int n :: r).map (ve_cv (ve_ga G)))) := by
      intro ty hty hat hgd hcb h24 hdv
      subst hty
      refine va_newaK hx hb (hok.w hgd args) rfl hdg rfl hn rfl (Nat.le_trans (Nat.mul_le_mul_left _ hcb) hb8) r1 r2 rfl fun H1 cA e1 z1 o1 hAr hNm => ?_
      have k1 := k H1 locs (ve_arr_new hok hP hat ⟨hk, h24⟩ hdv e1 hNm z1 o1) hlo
      have e5 : ve_n (ve_new h (ve_nk t) n.toNatClampNeg) - n0 = (ve_n h - n0) + 1 := by rw [ve_n_new]; omega
      have e6 : ve_u (ve_new h (ve_nk t) n.toNatClampNeg) - u0 = (ve_u h - u0) + n.toNatClampNeg := by rw [ve_u_new]; omega
      rw [e5, e6] at k1
      have e7 : Value.ref H.size = ve_cv (ve_ga G) (.ref (ve_n h)) := by rw [hsz]; rfl
      rw [e7]
      exact k1
    have hcka := List.all_eq_true.mp ve_cka_ok
    cases t with
    | int => exact fin .int rfl rfl (hcka _ (by decide)) (by decide) (by decide) (fun j => by rw [ve_vl0 hP]; rfl)
    | long => exact fin .long rfl rfl (hcka _ (by decide)) (by decide) (by decide) (fun j => by rw [ve_vl0 hP]; rfl)
    | byte => exact fin .byte rfl rfl (hcka _ (by decide)) (by decide) (by decide) (fun j => by rw [ve_vl0 hP]; rfl)
    | boolean => exact fin .boolean rfl rfl (hcka _ (by decide)) (by decide) (by decide) (fun j => by rw [ve_vl0 hP]; rfl)
    | char => exact absurd hk (by decide)
    | float => exact absurd hk (by decide)
    | double => exact absurd hk (by decide)
    | short => exact absurd hk (by decide)
  · cases he
theorem ve_anewarray_ok (hx : p.tables.exec = Jvm.exec) (hb : c.code = cc) (hok : ve_ok G s) (hown : s.vm.findClass (ve_nm own) = some m.cls) (hP : ve_P G h H) (hlo : ∀ q ∈ locs, ve_gB G ≤ q.base) (hR : ve_rm R d n0 u0) (h1 : n0 ≤ ve_n h) (h2 : u0 ≤ ve_u h) {idx : Nat}
    (hdg : decode cc pc = .ok (.anewarray idx, 3)) (he : ve_h_anewarray own idx st h = some (st', h'))
    (k : ve_K p l e R s m args below meth c Q G h' n0 u0 (F0 m (pc + 3) ls (st'.map (ve_cv (ve_ga G))))) : W p l e R s m args below meth c H locs (ve_n h - n0) (ve_u h - u0) Q (F0 m pc ls (st.map (ve_cv (ve_ga G)))) := by
  unfold ve_h_anewarray at he
  split at he
  · rename_i n r
    split at he
    · rename_i kd z hf
      obtain ⟨hr, he⟩ := ve_cond_t he
      obtain ⟨hn, he⟩ := ve_ite_f he
      obtain ⟨rfl, rfl⟩ := ve_pr2 he
      simp only [Bool.and_eq_true] at hr
      obtain ⟨hk, hr, hb8⟩ := hr
      have hk : kd = 7 := Nat.eq_of_beq_eq_true hk
      subst hk
      have hb8 := Nat.le_of_ble_eq_true hb8
      obtain ⟨r1, r2⟩ := ve_rk_ok hr hR h1 h2
      have hsz := hP.2.2.1
      have hck := ve_ckn_at hf
      unfold ve_ckn at hck
      simp only [Bool.and_eq_true] at hck
      obtain ⟨a1, a2, a3, a4, a5, a6⟩ := hck
      refine W.anew hx hb hown (hok.w a3 args) (va_AO.use hok.2.2.2.2.2.2.1) rfl hdg rfl hn (by omega) r1 r2 fun cA kA comp f1 f2 f3 f4 => ?_
      generalize hH1 : H.push ({ cls := cA, slots := Array.replicate n.toNatClampNeg .null, vm := .none } : Cell) = H1
      have z1 : H1.size = H.size + 1 := by rw [← hH1, Array.size_push]
      have e1 : H1[H.size]? = some (arrV cA n.toNatClampNeg (fun _ => defaultValue (.object "RuleHouse$Rule"))) := by rw [← hH1, Array.getElem?_push_size, ← arrV_new]; rfl
      have o1 : ∀ q : Nat, q < H.size → H1[q]? = H[q]? := fun q hq => by rw [← hH1, Array.getElem?_push, if_neg (Nat.ne_of_lt hq)]
      have k1 := k H1 locs (ve_arr_new hok hP (kd := 24) rfl ⟨by decide, by decide⟩ (fun j => by rw [ve_vl0 hP]; rfl) e1 f1 z1 o1) hlo
      have e5 : ve_n (ve_new h 24 n.toNatClampNeg) - n0 = (ve_n h - n0) + 1 := by rw [ve_n_new]; omega
      have e6 : ve_u (ve_new h 24 n.toNatClampNeg) - u0 = (ve_u h - u0) + n.toNatClampNeg := by rw [ve_u_new]; omega
      rw [e5, e6] at k1
      have e7 : Value.ref H.size = ve_cv (ve_ga G) (.ref (ve_n h)) := by rw [hsz]; rfl
      rw [e7]
      exact k1
    · cases he
  · cases he
set_option maxHeartbeats 4000000 in
theorem ve_he_ok (hx : p.tables.exec = Jvm.exec) (hb : c.code = cc) (hok : ve_ok G s) (hown : s.vm.findClass (ve_nm own) = some m.cls) (hini : ini = true → meth.name = "<init>") (hP : ve_P G h H) (hlo : ∀ q ∈ locs, ve_gB G ≤ q.base) (hR : ve_rm R d n0 u0) (h1 : n0 ≤ ve_n h) (h2 : u0 ≤ ve_u h)
    {i : Instr} (hdg : decode cc pc = .ok (i, ve_ln i)) (he : ve_he own ini i st h = some (st', h'))
    (k : ve_K p l e R s m args below meth c Q G h' n0 u0 (F0 m (pc + ve_ln i) ls (st'.map (ve_cv (ve_ga G))))) : W p l e R s m args below meth c H locs (ve_n h - n0) (ve_u h - u0) Q (F0 m pc ls (st.map (ve_cv (ve_ga G)))) := by
  cases i
  case getfield idx => exact ve_getfield_ok hx hb hok hown hP hlo hdg he k
  case putfield idx => exact ve_putfield_ok hx hb hok hown hini hP hlo hdg he k
  case arraylength => exact ve_alen_ok hx hb hok hP hlo hdg he k
  case iaload => exact ve_iald_ok hx hb hok hP hlo hdg he k
  case baload => exact ve_bald_ok hx hb hok hP hlo hdg he k
  case laload => exact ve_lald_ok hx hb hok hP hlo hdg he k
  case aaload => exact ve_aald_ok hx hb hok hP hlo hdg he k
  case iastore => exact ve_iast_ok hx hb hok hP hlo hdg he k
  case bastore => exact ve_bast_ok hx hb hok hP hlo hdg he k
  case lastore => exact ve_last_ok hx hb hok hP hlo hdg he k
  case aastore => exact ve_aast_ok hx hb hok hP hlo hdg he k
  case newarray t => exact ve_newarray_ok hx hb hok hP hlo hR h1 h2 hdg he k
  case anewarray idx => exact ve_anewarray_ok hx hb hok hown hP hlo hR h1 h2 hdg he k
  case new idx => exact ve_new_ok hx hb hok hown hP hlo hR h1 h2 hdg he k
  case ldc2_w idx => exact ve_ldc_ok hx hb hok hown hP hlo hdg he k
  all_goals exact absurd (show none = some _ from he) (fun q => by cases q)
/-- cells and slots only grow, and within the room -/
theorem ve_he_gr {i : Instr} (he : ve_he own ini i st h = some (st', h')) : (ve_n h' = ve_n h ∧ ve_u h' = ve_u h) ∨ ∃ z, ve_rk h z = true ∧ ve_n h' = ve_n h + 1 ∧ ve_u h' = ve_u h + z := by
  cases i
  case getfield idx =>
    change ve_h_getfield own idx st h = _ at he
    unfold ve_h_getfield at he
    repeat' split at he
    all_goals first
      | (cases he; done)
      | (obtain ⟨-, rfl⟩ := ve_pr2 he; exact Or.inl ⟨rfl, rfl⟩)
      | (obtain ⟨-, he⟩ := ve_cond_t he
         repeat' split at he
         all_goals first
           | (cases he; done)
           | (obtain ⟨-, rfl⟩ := ve_pr2 he; exact Or.inl ⟨rfl, rfl⟩)
           | (cases he; done))
  case putfield idx =>
    change ve_h_putfield own ini idx st h = _ at he
    unfold ve_h_putfield at he
    repeat' split at he
    all_goals first
      | (cases he; done)
      | (obtain ⟨-, he⟩ := ve_cond_t he
         repeat' split at he
         all_goals first
           | (cases he; done)
           | (obtain ⟨-, rfl⟩ := ve_pr2 he; exact Or.inl ⟨rfl, rfl⟩)
           | (cases he; done))
  case arraylength =>
    change ve_h_arraylength st h = _ at he
    unfold ve_h_arraylength at he
    split at he
    · obtain ⟨-, he⟩ := ve_cond_t he
      obtain ⟨-, rfl⟩ := ve_pr2 he; exact Or.inl ⟨rfl, rfl⟩
    · cases he
  case iaload =>
    change ve_h_iaload st h = _ at he
    unfold ve_h_iaload at he
    split at he
    · obtain ⟨-, he⟩ := ve_cond_t he
      obtain ⟨-, he⟩ := ve_ite_f he
      obtain ⟨-, rfl⟩ := ve_pr2 he; exact Or.inl ⟨rfl, rfl⟩
    · cases he
  case baload =>
    change ve_h_baload st h = _ at he
    unfold ve_h_baload at he
    split at he
    · obtain ⟨-, he⟩ := ve_cond_t he
      obtain ⟨-, he⟩ := ve_ite_f he
      obtain ⟨-, rfl⟩ := ve_pr2 he; exact Or.inl ⟨rfl, rfl⟩
    · cases he
  case laload =>
    change ve_h_laload st h = _ at he
    unfold ve_h_laload at he
    split at he
    · obtain ⟨-, he⟩ := ve_cond_t he
      obtain ⟨-, he⟩ := ve_ite_f he
      obtain ⟨-, rfl⟩ := ve_pr2 he; exact Or.inl ⟨rfl, rfl⟩
    · cases he
  case aaload =>
    change ve_h_aaload st h = _ at he
    unfold ve_h_aaload at he
    split at he
    · obtain ⟨-, he⟩ := ve_cond_t he
      obtain ⟨-, he⟩ := ve_ite_f he
      split at he
      · obtain ⟨-, rfl⟩ := ve_pr2 he; exact Or.inl ⟨rfl, rfl⟩
      · cases he
    · cases he
  case iastore =>
    change ve_h_iastore st h = _ at he
    unfold ve_h_iastore at he
    split at he
    · obtain ⟨-, he⟩ := ve_cond_t he
      obtain ⟨-, he⟩ := ve_ite_f he
      obtain ⟨-, rfl⟩ := ve_pr2 he; exact Or.inl ⟨rfl, rfl⟩
    · cases he
  case bastore =>
    change ve_h_bastore st h = _ at he
    unfold ve_h_bastore at he
    split at he
    · rename_i v i a r
      cases hk : (ve_k h a).beq 22 with
      | true =>
        rw [hk] at he
        obtain ⟨-, he⟩ := ve_ite_f he
        obtain ⟨-, rfl⟩ := ve_pr2 he; exact Or.inl ⟨rfl, rfl⟩
      | false =>
        rw [hk] at he
        obtain ⟨-, he⟩ := ve_cond_t he
        obtain ⟨-, he⟩ := ve_ite_f he
        obtain ⟨-, he⟩ := ve_ite_t he
        obtain ⟨-, rfl⟩ := ve_pr2 he; exact Or.inl ⟨rfl, rfl⟩
    · cases he
  case lastore =>
    change ve_h_lastore st h = _ at he
    unfold ve_h_lastore at he
    split at he
    · obtain ⟨-, he⟩ := ve_cond_t he
      obtain ⟨-, he⟩ := ve_ite_f he
      obtain ⟨-, rfl⟩ := ve_pr2 he; exact Or.inl ⟨rfl, rfl⟩
    · cases he
  case aastore =>
    change ve_h_aastore st h = _ at he
    unfold ve_h_aastore at he
    split at he
    · obtain ⟨-, he⟩ := ve_cond_t he
      obtain ⟨-, he⟩ := ve_ite_f he
      obtain ⟨-, rfl⟩ := ve_pr2 he; exact Or.inl ⟨rfl, rfl⟩
    · cases he
  case newarray t =>
    change ve_h_newarray t st h = _ at he
    unfold ve_h_newarray at he
    split at he
    · obtain ⟨hr, he⟩ := ve_cond_t he
      obtain ⟨-, he⟩ := ve_ite_f he
      simp only [Bool.and_eq_true] at hr
      obtain ⟨-, rfl⟩ := ve_pr2 he; exact Or.inr ⟨_, hr.2.1, rfl, rfl⟩
    · cases he
  case anewarray idx =>
    change ve_h_anewarray own idx st h = _ at he
    unfold ve_h_anewarray at he
    split at he
    · split at he
      · obtain ⟨hr, he⟩ := ve_cond_t he
        obtain ⟨-, he⟩ := ve_ite_f he
        simp only [Bool.and_eq_true] at hr
        obtain ⟨-, rfl⟩ := ve_pr2 he; exact Or.inr ⟨_, hr.2.1, rfl, rfl⟩
      · cases he
    · cases he
  case new idx =>
    change ve_h_new own idx st h = _ at he
    unfold ve_h_new at he
    split at he
    · obtain ⟨hr, he⟩ := ve_cond_t he
      obtain ⟨-, rfl⟩ := ve_pr2 he; exact Or.inr ⟨_, hr, rfl, rfl⟩
    · cases he
  case ldc2_w idx =>
    change ve_h_ldc2_w own idx st h = _ at he
    unfold ve_h_ldc2_w at he
    split at he
    · obtain ⟨-, rfl⟩ := ve_pr2 he; exact Or.inl ⟨rfl, rfl⟩
    · cases he
  all_goals exact absurd (show none = some _ from he) (fun q => by cases q)
theorem ve_he_bd {i : Instr} (he : ve_he own ini i st h = some (st', h')) (h1 : n0 ≤ ve_n h) (h2 : u0 ≤ ve_u h) (h3 : ve_n h ≤ 600003) (h4 : ve_u h ≤ 7302232) : n0 ≤ ve_n h' ∧ u0 ≤ ve_u h' ∧ ve_n h' ≤ 600003 ∧ ve_u h' ≤ 7302232 := by
  rcases ve_he_gr he with ⟨e1, e2⟩ | ⟨z, hr, e1, e2⟩
  · rw [e1, e2]; exact ⟨h1, h2, h3, h4⟩
  · unfold ve_rk at hr
    simp only [Bool.and_eq_true] at hr
    have a1 := Nat.le_of_ble_eq_true hr.1
    have a2 := Nat.le_of_ble_eq_true hr.2
    rw [e1, e2]
    omega
end VEJ
