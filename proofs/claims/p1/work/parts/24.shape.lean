/-! What no method changes but a constructor: kinds, sizes, final references, the script -/
def vx_fz (kd k : Nat) : Bool := (kd.beq 24 && Nat.blt k 31) || (match (ve_fs kd)[k]? with | some q => q.2.2 | none => false)
def vx_sh (h h' : ve_H) : Prop := ve_n h ≤ ve_n h' ∧ (∀ a, a < ve_n h → ve_k h' a = ve_k h a ∧ ve_z h' a = ve_z h a) ∧ (∀ a k, a < ve_n h → vx_fz (ve_k h a) k = true → ve_R h' a k = ve_R h a k) ∧ (∀ a i, a < ve_n h → ve_k h a = 30 → ve_I h' a i = ve_I h a i)
theorem vx_sh_refl (h : ve_H) : vx_sh h h := ⟨Nat.le_refl _, fun _ _ => ⟨rfl, rfl⟩, fun _ _ _ _ => rfl, fun _ _ _ _ => rfl⟩
theorem vx_sh_trans {h h1 h2 : ve_H} (s : vx_sh h h1) (t : vx_sh h1 h2) : vx_sh h h2 := by
  have hl : ∀ {a}, a < ve_n h → a < ve_n h1 := fun ha => Nat.lt_of_lt_of_le ha s.1
  refine ⟨Nat.le_trans s.1 t.1, fun a ha => ?_, fun a k ha hf => ?_, fun a i ha hf => ?_⟩
  · have h1 := s.2.1 a ha
    have h2 := t.2.1 a (hl ha)
    exact ⟨h2.1.trans h1.1, h2.2.trans h1.2⟩
  · have h1 := s.2.2.1 a k ha hf
    have h2 := t.2.2.1 a k (hl ha) (by rw [(s.2.1 a ha).1]; exact hf)
    exact h2.trans h1
  · have h1 := s.2.2.2 a i ha hf
    have h2 := t.2.2.2 a i (hl ha) ((s.2.1 a ha).1.trans hf)
    exact h2.trans h1
theorem vx_sh_sI {h : ve_H} {a : Nat} (hk : ve_k h a ≠ 30) (i : Nat) (v : Int32) : vx_sh h (ve_sI h a i v) := by
  refine ⟨Nat.le_refl _, fun _ _ => ⟨rfl, rfl⟩, fun _ _ _ _ => rfl, fun b j hb hb2 => ?_⟩
  rw [ve_I_sI]
  by_cases he : b = a ∧ j = i
  · exact absurd (he.1 ▸ hb2) hk
  · rw [if_neg he]
theorem vx_sh_sL (h : ve_H) (a i : Nat) (v : Int64) : vx_sh h (ve_sL h a i v) := ⟨Nat.le_refl _, fun _ _ => ⟨rfl, rfl⟩, fun _ _ _ _ => rfl, fun _ _ _ _ => rfl⟩
theorem vx_sh_sR {h : ve_H} {a i : Nat} (hk : vx_fz (ve_k h a) i = false) (v : Option Nat) : vx_sh h (ve_sR h a i v) := by
  refine ⟨Nat.le_refl _, fun _ _ => ⟨rfl, rfl⟩, fun b j hb hf => ?_, fun _ _ _ _ => rfl⟩
  rw [ve_R_sR]
  by_cases he : b = a ∧ j = i
  · obtain ⟨rfl, rfl⟩ := he
    rw [hk] at hf
    cases hf
  · rw [if_neg he]
theorem vx_sh_new (h : ve_H) (kd z : Nat) : vx_sh h (ve_new h kd z) := by
  refine ⟨Nat.le_succ _, fun a ha => ?_, fun _ _ _ _ => rfl, fun _ _ _ _ => rfl⟩
  rw [ve_k_new, ve_z_new, if_neg (by omega), if_neg (by omega)]
  exact ⟨rfl, rfl⟩
theorem vx_sh_cp (h0 : ve_H) (src sp dst dp : Nat) (h : ve_H) : ∀ k, vx_sh h (ve_cp h0 src sp dst dp h k)
  | 0 => vx_sh_refl h
  | k + 1 => vx_sh_trans (vx_sh_cp h0 src sp dst dp h k) (vx_sh_sL _ _ _ _)
def vx_foc : Bool := (List.range 16).all (fun ow => (ve_fo ow).all (fun q => (vx_fz q.2.1 q.2.2.1 == q.2.2.2) && (Nat.blt q.2.1 20)))
theorem vx_foc_t : vx_foc = true := by decide +kernel
theorem vx_as_mem {β : Type} : ∀ (l : List (Nat × β)) (k : Nat) (x : β), ve_as l k = some x → (k, x) ∈ l
  | [], _, _, h => by cases h
  | q :: r, k, x, h => by
    unfold ve_as at h
    cases hb : q.1.beq k with
    | true =>
      rw [hb] at h
      have h1 : some q.2 = some x := h
      have h2 := Nat.eq_of_beq_eq_true hb
      have h3 : q = (k, x) := by rw [← Option.some.inj h1, ← h2]
      rw [h3]
      exact List.mem_cons_self
    | false =>
      rw [hb] at h
      exact List.mem_cons_of_mem _ (vx_as_mem r k x h)
theorem vx_fo_big {ow : Nat} (h : 16 ≤ ow) : ve_fo ow = [] := by
  match ow, h with
  | n + 16, _ => rfl
theorem vx_fo_at {ow idx kd k : Nat} {fin : Bool} (h : ve_as (ve_fo ow) idx = some (kd, k, fin)) : vx_fz kd k = fin ∧ kd < 20 := by
  by_cases ho : ow < 16
  · have h1 := List.all_eq_true.mp vx_foc_t ow (List.mem_range.mpr ho)
    have h2 := List.all_eq_true.mp h1 _ (vx_as_mem _ _ _ h)
    rw [Bool.and_eq_true] at h2
    exact ⟨eq_of_beq h2.1, by have := h2.2; exact Nat.lt_of_succ_le (Nat.le_of_ble_eq_true this)⟩
  · rw [vx_fo_big (by omega)] at h
    cases h
theorem vx_som {α : Type} {x y : α} (h : some x = some y) : x = y := Option.some.inj h
theorem vx_pr2 {α β : Type} {a a' : α} {b b' : β} (h : some (a, b) = some (a', b')) : a = a' ∧ b = b' := by
  have := Option.some.inj h
  exact ⟨congrArg Prod.fst this, congrArg Prod.snd this⟩
section
variable {own : Nat} {st st' : List Value} {h h' : ve_H}
theorem vx_sh_get {idx : Nat} (he : ve_h_getfield own idx st h = some (st', h')) : vx_sh h h' := by
  unfold ve_h_getfield at he
  split at he
  · split at he
    · have he9 := ve_cond_t he
      clear he
      obtain ⟨_, he⟩ := he9
      split at he
      · exact (vx_pr2 he).2 ▸ vx_sh_refl h
      · exact (vx_pr2 he).2 ▸ vx_sh_refl h
      · split at he
        · exact (vx_pr2 he).2 ▸ vx_sh_refl h
        · cases he
      · exact (vx_pr2 he).2 ▸ vx_sh_refl h
      · cases he
    · cases he
  · cases he
theorem vx_sh_put {idx : Nat} (he : ve_h_putfield own false idx st h = some (st', h')) : vx_sh h h' := by
  unfold ve_h_putfield at he
  split at he
  · split at he
    · rename_i kd k fin hfo
      have he9 := ve_cond_t he
      clear he
      obtain ⟨hc, he⟩ := he9
      rw [Bool.and_eq_true] at hc
      have hk := Nat.eq_of_beq_eq_true hc.1
      have hf := vx_fo_at hfo
      split at he
      · exact (vx_pr2 he).2 ▸ vx_sh_sI (by omega) _ _
      · split at he
        · exact (vx_pr2 he).2 ▸ vx_sh_sI (by omega) _ _
        · cases he
      · cases he
    · cases he
  · split at he
    · have he9 := ve_cond_t he
      clear he
      obtain ⟨hc, he⟩ := he9
      split at he
      · exact (vx_pr2 he).2 ▸ vx_sh_sL _ _ _ _
      · cases he
    · cases he
  · split at he
    · rename_i kd k fin hfo
      have he9 := ve_cond_t he
      clear he
      obtain ⟨hc, he⟩ := he9
      rw [Bool.and_eq_true] at hc
      have hk := Nat.eq_of_beq_eq_true hc.1
      have hf := vx_fo_at hfo
      have hfin : fin = false := by
        cases fin with
        | false => rfl
        | true => exact absurd hc.2 (by simp)
      split at he
      · exact (vx_pr2 he).2 ▸ vx_sh_sR (by rw [hk, hf.1, hfin]) _
      · cases he
    · cases he
  · cases he
theorem vx_ite {α : Type} {p : Prop} [Decidable p] {x : Option α} {z : α} (h : (if p then none else x) = some z) : x = some z := (ve_ite_f h).2
theorem vx_sh_he {i : Instr} (hi : i ≠ .aastore) (he : ve_he own false i st h = some (st', h')) : vx_sh h h' := by
  unfold ve_he at he
  split at he
  · exact vx_sh_get he
  · exact vx_sh_put he
  · unfold ve_h_arraylength at he
    split at he
    · exact (vx_pr2 (ve_cond_t he).2).2 ▸ vx_sh_refl h
    · cases he
  · unfold ve_h_iaload at he
    split at he
    · exact (vx_pr2 (vx_ite (ve_cond_t he).2)).2 ▸ vx_sh_refl h
    · cases he
  · unfold ve_h_baload at he
    split at he
    · exact (vx_pr2 (vx_ite (ve_cond_t he).2)).2 ▸ vx_sh_refl h
    · cases he
  · unfold ve_h_laload at he
    split at he
    · exact (vx_pr2 (vx_ite (ve_cond_t he).2)).2 ▸ vx_sh_refl h
    · cases he
  · unfold ve_h_aaload at he
    split at he
    · have he2 := vx_ite (ve_cond_t he).2
      split at he2
      · exact (vx_pr2 he2).2 ▸ vx_sh_refl h
      · cases he2
    · cases he
  · unfold ve_h_iastore at he
    split at he
    · have hc := ve_cond_t he
      have hk := Nat.eq_of_beq_eq_true hc.1
      exact (vx_pr2 (vx_ite hc.2)).2 ▸ vx_sh_sI (by omega) _ _
    · cases he
  · unfold ve_h_bastore at he
    split at he
    · rename_i v i a r
      cases hb : (ve_k h a).beq 22 with
      | true =>
        rw [hb] at he
        have hk := Nat.eq_of_beq_eq_true hb
        exact (vx_pr2 (vx_ite (α := List Value × ve_H) he)).2 ▸ vx_sh_sI (by omega) _ _
      | false =>
        rw [hb] at he
        have hc := ve_cond_t (he : (bif (ve_k h a).beq 23 then _ else none) = _)
        have hk := Nat.eq_of_beq_eq_true hc.1
        have he2 := vx_ite hc.2
        split at he2
        · exact (vx_pr2 he2).2 ▸ vx_sh_sI (by omega) _ _
        · cases he2
    · cases he
  · unfold ve_h_lastore at he
    split at he
    · have hc := ve_cond_t he
      exact (vx_pr2 (vx_ite hc.2)).2 ▸ vx_sh_sL _ _ _ _
    · cases he
  · exact absurd rfl hi
  · unfold ve_h_newarray at he
    split at he
    · have hc := ve_cond_t he
      exact (vx_pr2 (vx_ite hc.2)).2 ▸ vx_sh_new _ _ _
    · cases he
  · unfold ve_h_anewarray at he
    split at he
    · split at he
      · have hc := ve_cond_t he
        exact (vx_pr2 (vx_ite hc.2)).2 ▸ vx_sh_new _ _ _
      · cases he
    · cases he
  · unfold ve_h_new at he
    split at he
    · have hc := ve_cond_t he
      exact (vx_pr2 hc.2).2 ▸ vx_sh_new _ _ _
    · cases he
  · unfold ve_h_ldc2_w at he
    split at he
    · exact (vx_pr2 he).2 ▸ vx_sh_refl h
    · cases he
  · cases he
end
/-- the methods but constructors and the law itself -/
def vx_M (mi : Nat) : Bool := Nat.blt mi 222 && (!ve_ini mi && !mi.beq 216)
def vx_okI (mi : Nat) (i : Instr) : Bool := match i with
  | .aastore => false
  | i => match ve_ct i with
    | 2 => match ve_as (ve_co (ve_ow mi)) (ve_ci i).1 with
      | some (how, cm, _) => Nat.blt how 3 || vx_M cm
      | none => true
    | _ => true
def vx_okm (mi : Nat) : Bool := !vx_M mi || (ve_e mi).2.2.2.2.2.2.2.all (fun l => l.all (fun q => vx_okI mi q.2.1))
theorem vx_ok_t : (List.range 222).all vx_okm = true := by decide +kernel
theorem vx_ok_at {mi pc : Nat} {i : Instr} {len : Nat} (hm : vx_M mi = true) (hf : ve_f mi pc = some (i, len)) : vx_okI mi i = true := by
  have hm2 := hm
  unfold vx_M at hm2
  rw [Bool.and_eq_true] at hm2
  have hlt : mi < 222 := Nat.lt_of_succ_le (Nat.le_of_ble_eq_true hm2.1)
  have h1 := List.all_eq_true.mp vx_ok_t mi (List.mem_range.mpr hlt)
  unfold vx_okm at h1
  rw [hm] at h1
  have h1' : (ve_e mi).2.2.2.2.2.2.2.all (fun l => l.all (fun q => vx_okI mi q.2.1)) = true := h1
  have h2 := ve_lk_mem _ _ _ hf
  rcases ve_getD_mem (ve_e mi).2.2.2.2.2.2.2 (pc / 32) [] with h3 | h3
  · exact List.all_eq_true.mp (List.all_eq_true.mp h1' _ h3) _ h2
  · rw [h3] at h2
    cases h2
theorem vx_M_ini {mi : Nat} (hm : vx_M mi = true) : ve_ini mi = false := by
  unfold vx_M at hm
  rw [Bool.and_eq_true, Bool.and_eq_true] at hm
  exact (Bool.not_eq_true' _).mp hm.2.1
set_option maxHeartbeats 4000000 in
theorem vx_run_sh : ∀ (n d mi pc : Nat) (lv : ve_V) (st : List Value) (h : ve_H) (o : ve_O) (h' : ve_H), vx_M mi = true → ve_run n d mi pc lv st h = some (o, h') → vx_sh h h'
  | 0, _, _, _, _, _, _, _, _, _, hx => by cases hx
  | n + 1, d, mi, pc, lv, st, h, o, h', hm, hx => by
    rw [ve_run_S] at hx
    have ih := fun d mi pc lv st h o h' hm hx => vx_run_sh n d mi pc lv st h o h' hm hx
    unfold ve_F at hx
    split at hx
    · cases hx
    · rename_i i len hf
      have hok := vx_ok_at hm hf
      split at hx
      · split at hx
        · exact (vx_pr2 hx).2 ▸ vx_sh_refl h
        · cases hx
      · split at hx
        · exact (vx_pr2 (ve_cond_t hx).2).2 ▸ vx_sh_refl h
        · cases hx
      · rename_i hct
        split at hx
        · cases hx
        · rename_i how cm np hco
          have hx9 := ve_cond_t hx
          clear hx
          obtain ⟨hhw, hx⟩ := hx9
          split at hx
          · split at hx
            · exact ih _ _ _ _ _ _ _ _ hm (ve_cond_t hx).2
            · cases hx
          · split at hx
            · exact ih _ _ _ _ _ _ _ _ hm (ve_cond_t hx).2
            · cases hx
          · split at hx
            · exact vx_sh_trans (vx_sh_cp _ _ _ _ _ _ _) (ih _ _ _ _ _ _ _ _ hm (vx_ite (ve_cond_t hx).2))
            · cases hx
          · rename_i q0 q1 q2
            have hcm : vx_M cm = true := by
              have h3 : ¬ Nat.blt how 3 = true := by
                intro hb
                have : how < 3 := Nat.lt_of_succ_le (Nat.le_of_ble_eq_true hb)
                have : how = 0 ∨ how = 1 ∨ how = 2 := by omega
                rcases this with q | q | q
                · exact q0 q
                · exact q1 q
                · exact q2 q
              unfold vx_okI at hok
              split at hok
              · cases hok
              · rw [hct] at hok
                have hok2 : (match ve_as (ve_co (ve_ow mi)) (ve_ci i).1 with
                  | some (how, cm, _) => Nat.blt how 3 || vx_M cm
                  | none => true) = true := hok
                rw [hco] at hok2
                have hok3 : (Nat.blt how 3 || vx_M cm) = true := hok2
                rw [Bool.or_eq_true] at hok3
                exact hok3.resolve_left h3
            have hx9 := ve_cond_t hx
            clear hx
            obtain ⟨hw9, hx⟩ := hx9
            cases d with
            | zero => cases hx
            | succ d' =>
              try dsimp only at hx
              split at hx
              · cases hx
              · rename_i v g1 hrun
                exact vx_sh_trans (ih _ _ _ _ _ _ _ _ hcm hrun) (ih _ _ _ _ _ _ _ _ hm hx)
              · rename_i a g1 hrun
                have hs1 := ih _ _ _ _ _ _ _ _ hcm hrun
                split at hx
                · exact (vx_pr2 hx).2 ▸ hs1
                · split at hx
                  · exact vx_sh_trans hs1 (ih _ _ _ _ _ _ _ _ hm hx)
                  · cases hx
      · split at hx
        · exact ih _ _ _ _ _ _ _ _ hm hx
        · cases hx
      · split at hx
        · exact ih _ _ _ _ _ _ _ _ hm hx
        · cases hx
      · split at hx
        · rename_i st' g1 hj
          rw [vx_M_ini hm] at hj
          have hna : i ≠ .aastore := by
            intro hi
            rw [hi] at hok
            cases hok
          exact vx_sh_trans (vx_sh_he hna hj) (ih _ _ _ _ _ _ _ _ hm hx)
        · cases hx
theorem vx_W_sh {d mi pc : Nat} {lv : ve_V} {st : List Value} {h : ve_H} {Q : ve_O → ve_H → Prop} (hm : vx_M mi = true) (k : vx_W d mi pc lv st h Q) : vx_W d mi pc lv st h (fun o h1 => vx_sh h h1 ∧ Q o h1) := by
  obtain ⟨n, o, h1, hr, hq⟩ := k
  exact ⟨n, o, h1, hr, vx_run_sh _ _ _ _ _ _ _ _ _ hm hr, hq⟩
