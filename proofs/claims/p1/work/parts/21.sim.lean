/-! Two heaps that agree where the first one has cells: the run is the same -/
def ve_eqa (h1 h2 : ve_H) (a : Nat) : Prop := ve_k h1 a = ve_k h2 a ∧ ve_z h1 a = ve_z h2 a ∧ ∀ j, ve_I h1 a j = ve_I h2 a j ∧ ve_L h1 a j = ve_L h2 a j ∧ ve_R h1 a j = ve_R h2 a j
def ve_sm (P : Nat → Prop) (B h1 h2 : ve_H) : Prop := ve_n h1 = ve_n h2 ∧ ve_u h1 = ve_u h2 ∧ (∀ a, P a → ve_eqa h1 h2 a) ∧ (∀ a, ¬ P a → ve_k h1 a = 0) ∧ (∀ a, ve_n h1 ≤ a → P a) ∧ (∀ a, ¬ P a → ve_eqa h2 B a)
section VSM
variable {P : Nat → Prop} {B h1 h2 h1' : ve_H} {st st' : List Value} {own : Nat} {ini : Bool}
theorem ve_sm.vis (S : ve_sm P B h1 h2) {a : Nat} (h : ve_k h1 a ≠ 0) : P a := Classical.byContradiction fun q => h (S.2.2.2.1 a q)
theorem ve_sm.sI (S : ve_sm P B h1 h2) {a : Nat} (ha : P a) (i : Nat) (v : Int32) : ve_sm P B (ve_sI h1 a i v) (ve_sI h2 a i v) := by
  obtain ⟨s1, s2, s3, s4, s5, s6⟩ := S
  refine ⟨s1, s2, fun b hb => ⟨(s3 b hb).1, (s3 b hb).2.1, fun j => ⟨?_, ((s3 b hb).2.2 j).2.1, ((s3 b hb).2.2 j).2.2⟩⟩, s4, s5, fun b hb => ⟨(s6 b hb).1, (s6 b hb).2.1, fun j => ⟨?_, ((s6 b hb).2.2 j).2.1, ((s6 b hb).2.2 j).2.2⟩⟩⟩
  · rw [ve_I_sI, ve_I_sI, ((s3 b hb).2.2 j).1]
  · rw [ve_I_sI, if_neg (fun q => hb (by rw [q.1]; exact ha))]
    exact ((s6 b hb).2.2 j).1
theorem ve_sm.sL (S : ve_sm P B h1 h2) {a : Nat} (ha : P a) (i : Nat) (v : Int64) : ve_sm P B (ve_sL h1 a i v) (ve_sL h2 a i v) := by
  obtain ⟨s1, s2, s3, s4, s5, s6⟩ := S
  refine ⟨s1, s2, fun b hb => ⟨(s3 b hb).1, (s3 b hb).2.1, fun j => ⟨((s3 b hb).2.2 j).1, ?_, ((s3 b hb).2.2 j).2.2⟩⟩, s4, s5, fun b hb => ⟨(s6 b hb).1, (s6 b hb).2.1, fun j => ⟨((s6 b hb).2.2 j).1, ?_, ((s6 b hb).2.2 j).2.2⟩⟩⟩
  · rw [ve_L_sL, ve_L_sL, ((s3 b hb).2.2 j).2.1]
  · rw [ve_L_sL, if_neg (fun q => hb (by rw [q.1]; exact ha))]
    exact ((s6 b hb).2.2 j).2.1
theorem ve_sm.sR (S : ve_sm P B h1 h2) {a : Nat} (ha : P a) (i : Nat) (v : Option Nat) : ve_sm P B (ve_sR h1 a i v) (ve_sR h2 a i v) := by
  obtain ⟨s1, s2, s3, s4, s5, s6⟩ := S
  refine ⟨s1, s2, fun b hb => ⟨(s3 b hb).1, (s3 b hb).2.1, fun j => ⟨((s3 b hb).2.2 j).1, ((s3 b hb).2.2 j).2.1, ?_⟩⟩, s4, s5, fun b hb => ⟨(s6 b hb).1, (s6 b hb).2.1, fun j => ⟨((s6 b hb).2.2 j).1, ((s6 b hb).2.2 j).2.1, ?_⟩⟩⟩
  · rw [ve_R_sR, ve_R_sR, ((s3 b hb).2.2 j).2.2]
  · rw [ve_R_sR, if_neg (fun q => hb (by rw [q.1]; exact ha))]
    exact ((s6 b hb).2.2 j).2.2
theorem ve_sm.nw (S : ve_sm P B h1 h2) (kd z : Nat) : ve_sm P B (ve_new h1 kd z) (ve_new h2 kd z) := by
  obtain ⟨s1, s2, s3, s4, s5, s6⟩ := S
  refine ⟨by rw [ve_n_new, ve_n_new, s1], by rw [ve_u_new, ve_u_new, s2], fun b hb => ⟨?_, ?_, (s3 b hb).2.2⟩, fun b hb => ?_, fun b hb => s5 b (by rw [ve_n_new] at hb; omega), fun b hb => ⟨?_, ?_, (s6 b hb).2.2⟩⟩
  · rw [ve_k_new, ve_k_new, s1, (s3 b hb).1]
  · rw [ve_z_new, ve_z_new, s1, (s3 b hb).2.1]
  · rw [ve_k_new, if_neg (fun q => hb (s5 b (by omega)))]
    exact s4 b hb
  · rw [ve_k_new, if_neg (fun q => hb (s5 b (by rw [s1]; omega)))]
    exact (s6 b hb).1
  · rw [ve_z_new, if_neg (fun q => hb (s5 b (by rw [s1]; omega)))]
    exact (s6 b hb).2.1
theorem ve_sm.rk (S : ve_sm P B h1 h2) (z : Nat) : ve_rk h2 z = ve_rk h1 z := by
  unfold ve_rk
  rw [S.1, S.2.1]
theorem ve_sm.cp (S : ve_sm P B h1 h2) {src dst : Nat} (hs : P src) (hd : P dst) (sp dp : Nat) : ∀ k, ve_sm P B (ve_cp h1 src sp dst dp h1 k) (ve_cp h2 src sp dst dp h2 k)
  | 0 => S
  | k + 1 => by
    have h := (ve_sm.cp S hs hd sp dp k).sL hd (dp + k) (ve_L h1 src (sp + k))
    show ve_sm P B (ve_sL (ve_cp h1 src sp dst dp h1 k) dst (dp + k) (ve_L h1 src (sp + k))) (ve_sL (ve_cp h2 src sp dst dp h2 k) dst (dp + k) (ve_L h2 src (sp + k)))
    rw [← ((S.2.2.1 src hs).2.2 (sp + k)).2.1]
    exact h
theorem ve_sm_get (S : ve_sm P B h1 h2) {idx : Nat} (he : ve_h_getfield own idx st h1 = some (st', h1')) : ∃ h2', ve_h_getfield own idx st h2 = some (st', h2') ∧ ve_sm P B h1' h2' := by
  unfold ve_h_getfield at he ⊢
  split at he
  · rename_i a r
    split at he
    · rename_i kd k fin hf
      have hc := ve_cond_t he
      clear he
      obtain ⟨hk, he⟩ := hc
      have hv := S.vis (a := a) (by have := (ve_ckf_at hf).1; rw [Nat.eq_of_beq_eq_true hk]; omega)
      obtain ⟨e1, e2, e3⟩ := S.2.2.1 a hv
      obtain ⟨f1, f2, f3⟩ := e3 k
      try rw [hf]
      try dsimp only
      rw [← e1, hk, ← f1, ← f2, ← f3]
      split at he
      · obtain ⟨rfl, rfl⟩ := ve_pr2 he; exact ⟨h2, rfl, S⟩
      · obtain ⟨rfl, rfl⟩ := ve_pr2 he; exact ⟨h2, rfl, S⟩
      · split at he
        · obtain ⟨rfl, rfl⟩ := ve_pr2 he; exact ⟨h2, rfl, S⟩
        · cases he
      · obtain ⟨rfl, rfl⟩ := ve_pr2 he; exact ⟨h2, rfl, S⟩
      · cases he
    · cases he
  · cases he
theorem ve_sm_put (S : ve_sm P B h1 h2) {idx : Nat} (he : ve_h_putfield own ini idx st h1 = some (st', h1')) : ∃ h2', ve_h_putfield own ini idx st h2 = some (st', h2') ∧ ve_sm P B h1' h2' := by
  unfold ve_h_putfield at he ⊢
  have vis : ∀ {a kd k : Nat} {fin : Bool}, ve_as (ve_fo own) idx = some (kd, k, fin) → ((ve_k h1 a).beq kd && (!fin || (ini && own.beq kd))) = true → P a := by
    intro a kd k fin hf hk
    simp only [Bool.and_eq_true] at hk
    exact S.vis (a := a) (by have := (ve_ckf_at hf).1; rw [Nat.eq_of_beq_eq_true hk.1]; omega)
  split at he
  · rename_i v a r
    split at he
    · rename_i kd k fin hf
      have hc := ve_cond_t he
      clear he
      obtain ⟨hk, he⟩ := hc
      have hv := vis hf hk
      try rw [hf]
      try dsimp only
      rw [← (S.2.2.1 a hv).1, hk]
      split at he
      · obtain ⟨rfl, rfl⟩ := ve_pr2 he; exact ⟨_, rfl, S.sI hv _ _⟩
      · have hc := ve_ite_t he
        clear he
        obtain ⟨h01, he⟩ := hc
        obtain ⟨rfl, rfl⟩ := ve_pr2 he
        exact ⟨_, if_pos h01, S.sI hv _ _⟩
      · cases he
    · cases he
  · rename_i v a r
    split at he
    · rename_i kd k fin hf
      have hc := ve_cond_t he
      clear he
      obtain ⟨hk, he⟩ := hc
      have hv := vis hf hk
      try rw [hf]
      try dsimp only
      rw [← (S.2.2.1 a hv).1, hk]
      split at he
      · obtain ⟨rfl, rfl⟩ := ve_pr2 he; exact ⟨_, rfl, S.sL hv _ _⟩
      · cases he
    · cases he
  · rename_i v a r
    split at he
    · rename_i kd k fin hf
      have hc := ve_cond_t he
      clear he
      obtain ⟨hk, he⟩ := hc
      have hv := vis hf hk
      try rw [hf]
      try dsimp only
      rw [← (S.2.2.1 a hv).1, hk]
      split at he
      · obtain ⟨rfl, rfl⟩ := ve_pr2 he; exact ⟨_, rfl, S.sR hv _ _⟩
      · cases he
    · cases he
  · cases he
theorem ve_or_ne {x a b : Nat} (h : (x.beq a || x.beq b) = true) (ha : a ≠ 0) (hb : b ≠ 0) : x ≠ 0 := by
  simp only [Bool.or_eq_true] at h
  rcases h with h | h
  · rw [Nat.eq_of_beq_eq_true h]; exact ha
  · rw [Nat.eq_of_beq_eq_true h]; exact hb
theorem ve_be_ne {x a : Nat} (h : x.beq a = true) (ha : a ≠ 0) : x ≠ 0 := by rw [Nat.eq_of_beq_eq_true h]; exact ha
theorem ve_sm_arr (S : ve_sm P B h1 h2) {i : Instr} (hi : i = .arraylength ∨ i = .iaload ∨ i = .baload ∨ i = .laload ∨ i = .aaload ∨ i = .iastore ∨ i = .bastore ∨ i = .lastore ∨ i = .aastore) (he : ve_he own ini i st h1 = some (st', h1')) : ∃ h2', ve_he own ini i st h2 = some (st', h2') ∧ ve_sm P B h1' h2' := by
  rcases hi with rfl | rfl | rfl | rfl | rfl | rfl | rfl | rfl | rfl
  · change ve_h_arraylength st h1 = _ at he
    change ∃ h2', ve_h_arraylength st h2 = _ ∧ _
    unfold ve_h_arraylength at he ⊢
    split at he
    · rename_i a r
      have hc := ve_cond_t he
      clear he
      obtain ⟨hk, he⟩ := hc
      have hv := S.vis (a := a) (by have := Nat.le_of_ble_eq_true hk; omega)
      obtain ⟨e1, e2, e3⟩ := S.2.2.1 a hv
      obtain ⟨rfl, rfl⟩ := ve_pr2 he
      try dsimp only
      rw [← e1, ← e2, hk]
      exact ⟨h2, rfl, S⟩
    · cases he
  · change ve_h_iaload st h1 = _ at he
    change ∃ h2', ve_h_iaload st h2 = _ ∧ _
    unfold ve_h_iaload at he ⊢
    split at he
    · rename_i i a r
      have hc := ve_cond_t he
      clear he
      obtain ⟨hk, he⟩ := hc
      have hv := S.vis (a := a) (ve_or_ne hk (by decide) (by decide))
      obtain ⟨e1, e2, e3⟩ := S.2.2.1 a hv
      have hc := ve_ite_f he
      clear he
      obtain ⟨hin, he⟩ := hc
      obtain ⟨rfl, rfl⟩ := ve_pr2 he
      try dsimp only
      rw [← e1, ← e2, hk, ← (e3 i.toNatClampNeg).1]
      exact ⟨h2, if_neg hin, S⟩
    · cases he
  · change ve_h_baload st h1 = _ at he
    change ∃ h2', ve_h_baload st h2 = _ ∧ _
    unfold ve_h_baload at he ⊢
    split at he
    · rename_i i a r
      have hc := ve_cond_t he
      clear he
      obtain ⟨hk, he⟩ := hc
      have hv := S.vis (a := a) (ve_or_ne hk (by decide) (by decide))
      obtain ⟨e1, e2, e3⟩ := S.2.2.1 a hv
      have hc := ve_ite_f he
      clear he
      obtain ⟨hin, he⟩ := hc
      obtain ⟨rfl, rfl⟩ := ve_pr2 he
      try dsimp only
      rw [← e1, ← e2, hk, ← (e3 i.toNatClampNeg).1]
      exact ⟨h2, if_neg hin, S⟩
    · cases he
  · change ve_h_laload st h1 = _ at he
    change ∃ h2', ve_h_laload st h2 = _ ∧ _
    unfold ve_h_laload at he ⊢
    split at he
    · rename_i i a r
      have hc := ve_cond_t he
      clear he
      obtain ⟨hk, he⟩ := hc
      have hv := S.vis (a := a) (ve_be_ne hk (by decide))
      obtain ⟨e1, e2, e3⟩ := S.2.2.1 a hv
      have hc := ve_ite_f he
      clear he
      obtain ⟨hin, he⟩ := hc
      obtain ⟨rfl, rfl⟩ := ve_pr2 he
      try dsimp only
      rw [← e1, ← e2, hk, ← (e3 i.toNatClampNeg).2.1]
      exact ⟨h2, if_neg hin, S⟩
    · cases he
  · change ve_h_aaload st h1 = _ at he
    change ∃ h2', ve_h_aaload st h2 = _ ∧ _
    unfold ve_h_aaload at he ⊢
    split at he
    · rename_i i a r
      have hc := ve_cond_t he
      clear he
      obtain ⟨hk, he⟩ := hc
      have hv := S.vis (a := a) (ve_be_ne hk (by decide))
      obtain ⟨e1, e2, e3⟩ := S.2.2.1 a hv
      have hc := ve_ite_f he
      clear he
      obtain ⟨hin, he⟩ := hc
      try dsimp only
      rw [← e1, ← e2, hk, ← (e3 i.toNatClampNeg).2.2]
      split at he
      · rename_i b hb
        obtain ⟨rfl, rfl⟩ := ve_pr2 he
        try rw [hb]
        exact ⟨h2, if_neg hin, S⟩
      · cases he
    · cases he
  · change ve_h_iastore st h1 = _ at he
    change ∃ h2', ve_h_iastore st h2 = _ ∧ _
    unfold ve_h_iastore at he ⊢
    split at he
    · rename_i v i a r
      have hc := ve_cond_t he
      clear he
      obtain ⟨hk, he⟩ := hc
      have hv := S.vis (a := a) (ve_be_ne hk (by decide))
      obtain ⟨e1, e2, e3⟩ := S.2.2.1 a hv
      have hc := ve_ite_f he
      clear he
      obtain ⟨hin, he⟩ := hc
      obtain ⟨rfl, rfl⟩ := ve_pr2 he
      try dsimp only
      rw [← e1, ← e2, hk]
      exact ⟨_, if_neg hin, S.sI hv _ _⟩
    · cases he
  · change ve_h_bastore st h1 = _ at he
    change ∃ h2', ve_h_bastore st h2 = _ ∧ _
    unfold ve_h_bastore at he ⊢
    split at he
    · rename_i v i a r
      cases hk : (ve_k h1 a).beq 22 with
      | true =>
        rw [hk] at he
        have hv := S.vis (a := a) (ve_be_ne hk (by decide))
        obtain ⟨e1, e2, e3⟩ := S.2.2.1 a hv
        have hc := ve_ite_f he
        clear he
        obtain ⟨hin, he⟩ := hc
        obtain ⟨rfl, rfl⟩ := ve_pr2 he
        try dsimp only
        rw [← e1, ← e2, hk]
        exact ⟨_, if_neg hin, S.sI hv _ _⟩
      | false =>
        rw [hk] at he
        have hc := ve_cond_t he
        clear he
        obtain ⟨hk2, he⟩ := hc
        have hv := S.vis (a := a) (ve_be_ne hk2 (by decide))
        obtain ⟨e1, e2, e3⟩ := S.2.2.1 a hv
        have hc := ve_ite_f he
        clear he
        obtain ⟨hin, he⟩ := hc
        have hc := ve_ite_t he
        clear he
        obtain ⟨h01, he⟩ := hc
        obtain ⟨rfl, rfl⟩ := ve_pr2 he
        try dsimp only
        rw [← e1, ← e2, hk, hk2]
        exact ⟨_, (if_neg hin).trans (if_pos h01), S.sI hv _ _⟩
    · cases he
  · change ve_h_lastore st h1 = _ at he
    change ∃ h2', ve_h_lastore st h2 = _ ∧ _
    unfold ve_h_lastore at he ⊢
    split at he
    · rename_i v i a r
      have hc := ve_cond_t he
      clear he
      obtain ⟨hk, he⟩ := hc
      have hv := S.vis (a := a) (ve_be_ne hk (by decide))
      obtain ⟨e1, e2, e3⟩ := S.2.2.1 a hv
      have hc := ve_ite_f he
      clear he
      obtain ⟨hin, he⟩ := hc
      obtain ⟨rfl, rfl⟩ := ve_pr2 he
      try dsimp only
      rw [← e1, ← e2, hk]
      exact ⟨_, if_neg hin, S.sL hv _ _⟩
    · cases he
  · change ve_h_aastore st h1 = _ at he
    change ∃ h2', ve_h_aastore st h2 = _ ∧ _
    unfold ve_h_aastore at he ⊢
    split at he
    · rename_i v i a r
      have hc := ve_cond_t he
      clear he
      obtain ⟨hk, he⟩ := hc
      have hk' := hk
      simp only [Bool.and_eq_true] at hk'
      have hv := S.vis (a := a) (ve_be_ne hk'.1 (by decide))
      have hv2 := S.vis (a := v) (ve_be_ne hk'.2 (by decide))
      obtain ⟨e1, e2, e3⟩ := S.2.2.1 a hv
      have e9 := (S.2.2.1 v hv2).1
      have hc := ve_ite_f he
      clear he
      obtain ⟨hin, he⟩ := hc
      obtain ⟨rfl, rfl⟩ := ve_pr2 he
      try dsimp only
      rw [← e1, ← e2, ← e9, hk]
      exact ⟨_, if_neg hin, S.sR hv _ _⟩
    · cases he
theorem ve_sm_he (S : ve_sm P B h1 h2) {i : Instr} (he : ve_he own ini i st h1 = some (st', h1')) : ∃ h2', ve_he own ini i st h2 = some (st', h2') ∧ ve_sm P B h1' h2' := by
  cases i
  case getfield idx => exact ve_sm_get S he
  case putfield idx => exact ve_sm_put S he
  case arraylength => exact ve_sm_arr S (by simp) he
  case iaload => exact ve_sm_arr S (by simp) he
  case baload => exact ve_sm_arr S (by simp) he
  case laload => exact ve_sm_arr S (by simp) he
  case aaload => exact ve_sm_arr S (by simp) he
  case iastore => exact ve_sm_arr S (by simp) he
  case bastore => exact ve_sm_arr S (by simp) he
  case lastore => exact ve_sm_arr S (by simp) he
  case aastore => exact ve_sm_arr S (by simp) he
  case newarray t =>
    change ve_h_newarray t st h1 = _ at he
    change ∃ h2', ve_h_newarray t st h2 = _ ∧ _
    unfold ve_h_newarray at he ⊢
    split at he
    · have hc := ve_cond_t he
      clear he
      obtain ⟨hk, he⟩ := hc
      have hc := ve_ite_f he
      clear he
      obtain ⟨hin, he⟩ := hc
      obtain ⟨rfl, rfl⟩ := ve_pr2 he
      try dsimp only
      rw [S.rk, hk, ← S.1]
      exact ⟨_, if_neg hin, S.nw _ _⟩
    · cases he
  case anewarray idx =>
    change ve_h_anewarray own idx st h1 = _ at he
    change ∃ h2', ve_h_anewarray own idx st h2 = _ ∧ _
    unfold ve_h_anewarray at he ⊢
    split at he
    · split at he
      · rename_i kd z hf
        have hc := ve_cond_t he
        clear he
        obtain ⟨hk, he⟩ := hc
        have hc := ve_ite_f he
        clear he
        obtain ⟨hin, he⟩ := hc
        obtain ⟨rfl, rfl⟩ := ve_pr2 he
        try rw [hf]
        try dsimp only
        rw [S.rk, hk, ← S.1]
        exact ⟨_, if_neg hin, S.nw _ _⟩
      · cases he
    · cases he
  case new idx =>
    change ve_h_new own idx st h1 = _ at he
    change ∃ h2', ve_h_new own idx st h2 = _ ∧ _
    unfold ve_h_new at he ⊢
    split at he
    · rename_i kd z hf
      have hc := ve_cond_t he
      clear he
      obtain ⟨hk, he⟩ := hc
      obtain ⟨rfl, rfl⟩ := ve_pr2 he
      try rw [hf]
      try dsimp only
      rw [S.rk, hk, ← S.1]
      exact ⟨_, rfl, S.nw _ _⟩
    · cases he
  case ldc2_w idx =>
    change ve_h_ldc2_w own idx st h1 = _ at he
    change ∃ h2', ve_h_ldc2_w own idx st h2 = _ ∧ _
    unfold ve_h_ldc2_w at he ⊢
    split at he
    · rename_i v hv
      obtain ⟨rfl, rfl⟩ := ve_pr2 he
      try rw [hv]
      exact ⟨h2, rfl, S⟩
    · cases he
  all_goals exact absurd (show none = some _ from he) (fun q => by cases q)
end VSM
