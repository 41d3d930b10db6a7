/-! Rows: a table of rows with slots -/
theorem vx_m32 (b : BitVec 32) : (b &&& 511#32).toInt = b.toInt % 512 := by
  have h1 : (b &&& 511#32).toNat = b.toNat % 512 := by
    rw [BitVec.toNat_and]
    exact Nat.and_two_pow_sub_one_eq_mod b.toNat 9
  have h2 := b.isLt
  rw [BitVec.toInt_eq_toNat_cond, BitVec.toInt_eq_toNat_cond, h1]
  split <;> split <;> omega
theorem vx_i_mod9 (x : Int) : (vx_i x).toInt % 512 = x % 512 := by
  have e : (vx_i x).toInt = x.bmod 4294967296 := Int32.toInt_ofInt
  rw [e, Int.bmod_def]
  split <;> omega
theorem vx_and511 (x : Int) : vx_and x 511 = x % 512 := by
  have h := vx_m32 (vx_i x).toBitVec
  have e : (vx_i x).toBitVec.toInt % 512 = x % 512 := vx_i_mod9 x
  rw [e] at h
  exact h
theorem vx_K_cp {h0 h : ve_H} {src sp dst dp b k : Nat} : ∀ n, vx_K (ve_cp h0 src sp dst dp h n) b k = if b = dst ∧ dp ≤ k ∧ k < dp + n then vx_K h0 src (sp + (k - dp)) else vx_K h b k
  | 0 => by rw [if_neg (by omega)]; rfl
  | n + 1 => by
    show (ve_L (ve_sL (ve_cp h0 src sp dst dp h n) dst (dp + n) (ve_L h0 src (sp + n))) b k).toInt = _
    rw [ve_L_sL]
    by_cases q : b = dst ∧ k = dp + n
    · rw [if_pos q, if_pos (by omega), show sp + (k - dp) = sp + n by omega]
      rfl
    · rw [if_neg q]
      have := vx_K_cp (h0 := h0) (h := h) (src := src) (sp := sp) (dst := dst) (dp := dp) (b := b) (k := k) n
      show vx_K (ve_cp h0 src sp dst dp h n) b k = _
      rw [this]
      by_cases q2 : b = dst ∧ dp ≤ k ∧ k < dp + n
      · rw [if_pos q2, if_pos (by omega)]
      · rw [if_neg q2, if_neg (by omega)]
theorem vx_J_cp {h0 h : ve_H} {src sp dst dp b k : Nat} (n : Nat) : vx_J (ve_cp h0 src sp dst dp h n) b k = vx_J h b k := by
  show (ve_I (ve_cp h0 src sp dst dp h n) b k).toInt = _
  rw [vx_cpI]; rfl
theorem ve_n_cp (h0 : ve_H) (src sp dst dp : Nat) (h : ve_H) : ∀ n, ve_n (ve_cp h0 src sp dst dp h n) = ve_n h ∧ ve_u (ve_cp h0 src sp dst dp h n) = ve_u h
  | 0 => ⟨rfl, rfl⟩
  | n + 1 => ve_n_cp h0 src sp dst dp h n
theorem vx_fr_cp {S : Nat → Nat → Prop} {h h1 h2 : ve_H} {src sp dst dp n : Nat} (f : vx_fr S h h1) (e : h2 = ve_cp h1 src sp dst dp h1 n) (hs : ∀ k, dp ≤ k → k < dp + n → S dst k) : vx_fr S h h2 := by
  subst e
  refine vx_fr_trans f ⟨ve_n_cp h1 src sp dst dp h1 n, fun a k q => ⟨vx_J_cp n, ?_, vx_cpR h1 src sp dst dp h1 a k n⟩⟩
  rw [vx_K_cp, if_neg]
  rintro ⟨rfl, h2, h3⟩
  exact q (hs k h2 h3)
theorem vr_pig : ∀ (n m : Nat) (f : Nat → Nat), (∀ i, i < n → f i < m) → (∀ i j, i < n → j < n → f i = f j → i = j) → n ≤ m
  | 0, _, _, _, _ => Nat.zero_le _
  | n + 1, m, f, h1, h2 => by
    have hm := h1 n (Nat.lt_succ_self n)
    have := vr_pig n (m - 1) (fun i => if f i = m - 1 then f n else f i) (fun i hi => ?_) (fun i j hi hj e => ?_)
    · omega
    · show (if f i = m - 1 then f n else f i) < m - 1
      have a := h1 i (by omega)
      by_cases q : f i = m - 1
      · rw [if_pos q]
        by_cases q2 : f n = m - 1
        · have := h2 i n (by omega) (by omega) (q.trans q2.symm)
          omega
        · omega
      · rw [if_neg q]
        omega
    · have e : (if f i = m - 1 then f n else f i) = (if f j = m - 1 then f n else f j) := e
      by_cases q : f i = m - 1
      · by_cases q2 : f j = m - 1
        · exact h2 i j (by omega) (by omega) (q.trans q2.symm)
        · rw [if_pos q, if_neg q2] at e
          have := h2 n j (by omega) (by omega) e
          omega
      · by_cases q2 : f j = m - 1
        · rw [if_neg q, if_pos q2] at e
          have := h2 i n (by omega) (by omega) e
          omega
        · rw [if_neg q, if_neg q2] at e
          exact h2 i j (by omega) (by omega) e
/-- the mix of a row's cells, and the slot where its search begins -/
def vr_m (f : Nat → Int) : Nat → Int
  | 0 => 0
  | k + 1 => (vx_lxor (vx_lxor (vr_m f k) (vx_lushr (vr_m f k) 29)) (f k)) * (-7046029254386353131)
def vr_h (w : Nat) (f : Nat → Int) : Nat := (vx_lushr (vr_m f w) 40 % 512).toNat
theorem vr_m_congr {f g : Nat → Int} : ∀ w, (∀ k, k < w → f k = g k) → vr_m f w = vr_m g w
  | 0, _ => rfl
  | w + 1, h => by
    show (vx_lxor (vx_lxor (vr_m f w) (vx_lushr (vr_m f w) 29)) (f w)) * (-7046029254386353131) = (vx_lxor (vx_lxor (vr_m g w) (vx_lushr (vr_m g w) 29)) (g w)) * (-7046029254386353131)
    rw [vr_m_congr w (fun k hk => h k (by omega)), h w (by omega)]
theorem vr_h_congr {f g : Nat → Int} {w : Nat} (h : ∀ k, k < w → f k = g k) : vr_h w f = vr_h w g := by
  unfold vr_h
  rw [vr_m_congr w h]
theorem vr_h_lt (w : Nat) (f : Nat → Int) : vr_h w f < 512 := by
  unfold vr_h
  omega
abbrev vr_eq (w : Nat) (f g : Nat → Int) : Prop := ∀ k, k < w → f k = g k
/-- the cells of m rows -/
def vr_C (a w m : Nat) (rr : Nat → Nat → Int) (h : ve_H) : Prop := ∀ i k, i < m → k < w → vx_K h (vx_r a 1) (i * w + k) = rr i k
/-- the slots of m rows -/
def vr_S (a w m : Nat) (rr : Nat → Nat → Int) (h : ve_H) : Prop := ∃ pos : Nat → Nat, (∀ i, i < m → pos i < 512 ∧ vx_J h (vx_r a 2) (pos i) = (i : Int) + 1) ∧ (∀ s, s < 512 → vx_J h (vx_r a 2) s ≠ 0 → ∃ i, i < m ∧ pos i = s) ∧ (∀ i, i < m → ∃ t, t < 512 ∧ pos i = (vr_h w (rr i) + t) % 512 ∧ ∀ t', t' < t → vx_J h (vx_r a 2) ((vr_h w (rr i) + t') % 512) ≠ 0)
/-- how a search ends -/
def vr_F (a w m : Nat) (rr : Nat → Nat → Int) (f : Nat → Int) (h : ve_H) (s : Nat) : Prop := (∃ i, i < m ∧ vr_eq w (rr i) f ∧ vx_J h (vx_r a 2) s = (i : Int) + 1) ∨ ((∀ i, i < m → ¬ vr_eq w (rr i) f) ∧ vx_J h (vx_r a 2) s = 0 ∧ ∃ t, t < 512 ∧ s = (vr_h w f + t) % 512 ∧ ∀ t', t' < t → vx_J h (vx_r a 2) ((vr_h w f + t') % 512) ≠ 0)
/-- the kind of a table: its width, the size of its cells -/
def vr_K (a w : Nat) : Prop := vx_o 1 625 6 a ∧ (w = 5 ∨ w = 8) ∧ vx_za (vx_r a 1) = 201 * w
theorem vr_free {a w m : Nat} {rr : Nat → Nat → Int} {h : ve_H} (S : vr_S a w m rr h) (hm : m ≤ 201) (all : ∀ s, s < 512 → vx_J h (vx_r a 2) s ≠ 0) : False := by
  obtain ⟨pos, p1, p2, p3⟩ := S
  have := vr_pig 512 m (fun s => (vx_J h (vx_r a 2) s - 1).toNat) (fun s hs => ?_) (fun s t hs ht e => ?_)
  · omega
  · obtain ⟨i, hi, e⟩ := p2 s hs (all s hs)
    have := (p1 i hi).2
    rw [e] at this
    show (vx_J h (vx_r a 2) s - 1).toNat < m
    omega
  · obtain ⟨i, hi, e1⟩ := p2 s hs (all s hs)
    obtain ⟨j, hj, e2⟩ := p2 t ht (all t ht)
    have a1 := (p1 i hi).2
    have a2 := (p1 j hj).2
    rw [e1] at a1
    rw [e2] at a2
    have e : (vx_J h (vx_r a 2) s - 1).toNat = (vx_J h (vx_r a 2) t - 1).toNat := e
    have : i = j := by omega
    rw [← e1, ← e2, this]
theorem vr_all {P : Nat → Prop} {H : Nat} (hH : H < 512) (all : ∀ t, t < 512 → P ((H + t) % 512)) : ∀ s, s < 512 → P s := by
  intro s hs
  have := all ((s + 512 - H) % 512) (Nat.mod_lt _ (by decide))
  rwa [show (H + (s + 512 - H) % 512) % 512 = s by omega] at this
/-- the first free place ends the search of a row that isn't there -/
theorem vr_stop {a w m t : Nat} {rr : Nat → Nat → Int} {f : Nat → Int} {h : ve_H} (S : vr_S a w m rr h) (hf : ∀ t', t' < t → ∃ i, i < m ∧ vx_J h (vx_r a 2) ((vr_h w f + t') % 512) = (i : Int) + 1 ∧ ¬ vr_eq w (rr i) f) (h0 : vx_J h (vx_r a 2) ((vr_h w f + t) % 512) = 0) : ∀ i, i < m → ¬ vr_eq w (rr i) f := by
  obtain ⟨pos, p1, p2, p3⟩ := S
  intro i hi he
  obtain ⟨ti, h1, h2, h3⟩ := p3 i hi
  rw [vr_h_congr he] at h2 h3
  have hp := (p1 i hi).2
  rcases Nat.lt_trichotomy ti t with q | q | q
  · obtain ⟨j, hj, e1, e2⟩ := hf ti q
    rw [← h2, hp] at e1
    have : i = j := by omega
    exact e2 (by rw [← this]; exact he)
  · rw [h2, q, h0] at hp
    omega
  · exact h3 t q h0
section
variable {d a b w m : Nat} {rr : Nat → Nat → Int} {f : Nat → Int} {h : ve_H} {x : Int} {from_ : Nat}
theorem vc_176_52 (ob : vx_o 1 625 21 b) (hT : vx_T 1 625 h) (K : vr_K a w) (hw : vx_J h a 0 = w) (C : vr_C a w m rr h) (S : vr_S a w m rr h) (hm : m ≤ 201) (hz : from_ + w ≤ vx_za b) (hx : x = from_) (hf : ∀ k, k < w → vx_K h b (from_ + k) = f k) {v3 : Int} : ∀ (n t : Nat) (y z : Int) (v7 v8 : Option Value), 512 - t = n → t ≤ 512 → z = t → y = ((vr_h w f + t) % 512 : Nat) → (∀ t', t' < t → ∃ i, i < m ∧ vx_J h (vx_r a 2) ((vr_h w f + t') % 512) = (i : Int) + 1 ∧ ¬ vr_eq w (rr i) f) →
    vx_W d 176 52 [some (.ref a), some (.ref b), some (.int (vx_i x)), some (.long (vx_l v3)), none, some (.int (vx_i y)), some (.int (vx_i z)), v7, v8] [] h (vx_RI (fun r h1 => h1 = h ∧ (0 ≤ r ∧ r < 512) ∧ vr_F a w m rr f h r.toNat)) := by
  have hza := vx_za_lt b
  intro n
  induction n with
  | zero =>
    intro t y z v7 v8 hn ht hz2 hy all
    exfalso
    have : t = 512 := by omega
    subst this
    refine vr_free S hm (vr_all (vr_h_lt w f) (P := fun s => vx_J h (vx_r a 2) s ≠ 0) (fun t' ht' => ?_))
    obtain ⟨i, hi, e, -⟩ := all t' ht'
    show vx_J h (vx_r a 2) ((vr_h w f + t') % 512) ≠ 0
    omega
  | succ n ih =>
    intro t y z v7 v8 hn ht hz2 hy all
    have ey : y.toNat = (vr_h w f + t) % 512 := by omega
    refine vg_176_52 K.1 ob hT ⟨by omega, fun q => absurd q (by omega), fun _ => ⟨by omega, fun q0 => ⟨by omega, rfl, by omega, ?_⟩, fun q0 => ⟨by omega, ?_⟩⟩⟩
    · rw [ey] at q0 ⊢
      exact Or.inr ⟨vr_stop S all q0, q0, t, by omega, rfl, fun t' ht' => by obtain ⟨i, hi, e, -⟩ := all t' ht'; omega⟩
    · rw [ey] at q0 ⊢
      obtain ⟨pos, p1, p2, p3⟩ := id S
      obtain ⟨i, hi, ei⟩ := p2 _ (Nat.mod_lt _ (by decide)) q0
      have hs := (p1 i hi).2
      rw [ei] at hs
      rw [hs, hw]
      -- the row's cells one by one
      have L : ∀ (n2 k : Nat) (v8 : Int), w - k = n2 → k ≤ w → v8 = k → (∀ k', k' < k → rr i k' = f k') → vx_W d 176 89 [some (.ref a), some (.ref b), some (.int (vx_i x)), some (.long (vx_l v3)), none, some (.int (vx_i y)), some (.int (vx_i z)), some (.int (vx_i (((i : Int) + 1 - 1) * (w : Int)))), some (.int (vx_i v8))] [] h (vx_RI (fun r h1 => h1 = h ∧ (0 ≤ r ∧ r < 512) ∧ vr_F a w m rr f h r.toNat)) := by
        intro n2
        induction n2 with
        | zero =>
          intro k v8 hn2 hk e8 hall
          refine vg_176_89 K.1 ob hT ?_
          rw [hw]
          refine ⟨by rcases K.2.1 with rfl | rfl <;> omega, fun _ => ⟨fun q => absurd (by omega) q, fun _ => ⟨by omega, rfl, by omega, ?_⟩⟩, fun q => absurd q (by omega)⟩
          rw [ey]
          exact Or.inl ⟨i, hi, fun k' hk' => hall k' (by omega), hs⟩
        | succ n2 ih2 =>
          intro k v8 hn2 hk e8 hall
          have hc := C i k hi (by omega)
          have hfk := hf k (by omega)
          have NX : ¬ rr i k = f k → vx_W d 176 52 [some (.ref a), some (.ref b), some (.int (vx_i x)), some (.long (vx_l v3)), none, some (.int (vx_i (vx_and (y + 1) 511))), some (.int (vx_i (z + 1))), some (.int (vx_i (((i : Int) + 1 - 1) * (w : Int)))), some (.int (vx_i v8))] [] h (vx_RI (fun r h1 => h1 = h ∧ (0 ≤ r ∧ r < 512) ∧ vr_F a w m rr f h r.toNat)) := by
            intro hne
            rw [vx_and511]
            refine ih (t + 1) _ _ _ _ (by omega) (by omega) (by omega) (by omega) (fun t' ht' => ?_)
            by_cases q : t' = t
            · rw [q]
              exact ⟨i, hi, hs, fun e => hne (e k (by omega))⟩
            · exact all t' (by omega)
          refine vg_176_89 K.1 ob hT ?_
          rw [hw]
          have ei2 : (((i : Int) + 1 - 1) * (w : Int) + v8).toNat = i * w + k := by
            rw [e8, show ((i : Int) + 1 - 1) * (w : Int) = ((i * w : Nat) : Int) by rw [Int.natCast_mul]; congr 1; omega]
            omega
          have ef : (x + v8).toNat = from_ + k := by omega
          rw [ei2, ef, hc, hfk]
          have bnd : 0 ≤ ((i : Int) + 1 - 1) * (w : Int) + v8 ∧ ((i : Int) + 1 - 1) * (w : Int) + v8 < (vx_za (vx_r a 1) : Nat) := by
            rw [K.2.2]
            rcases K.2.1 with rfl | rfl <;> omega
          refine ⟨by rcases K.2.1 with rfl | rfl <;> omega, fun q => absurd q (by omega), fun _ => ⟨bnd, by omega, fun q => NX q, fun q => ?_⟩⟩
          refine ih2 (k + 1) (v8 + 1) (by omega) (by omega) (by omega) (fun k' hk' => ?_)
          by_cases q2 : k' = k
          · rw [q2]; exact q
          · exact hall k' (by omega)
      exact L w 0 0 (by omega) (by omega) rfl (fun k' hk' => by omega)
theorem vc_176 (ob : vx_o 1 625 21 b) (hT : vx_T 1 625 h) (K : vr_K a w) (hw : vx_J h a 0 = w) (C : vr_C a w m rr h) (S : vr_S a w m rr h) (hm : m ≤ 201) (hz : from_ + w ≤ vx_za b) (hx : x = from_) (hf : ∀ k, k < w → vx_K h b (from_ + k) = f k) :
    vx_CI d 176 [.ref a, .ref b, .int (vx_i x)] h (fun r h1 => h1 = h ∧ (0 ≤ r ∧ r < 512) ∧ vr_F a w m rr f h r.toNat) := by
  have hza := vx_za_lt b
  have hw8 : w ≤ 8 := by rcases K.2.1 with rfl | rfl <;> omega
  refine vg_176 K.1 ob hT ?_
  have L : ∀ (n k : Nat) (z : Int), w - k = n → k ≤ w → z = k → vx_W d 176 5 [some (.ref a), some (.ref b), some (.int (vx_i x)), some (.long (vx_l (vr_m f k))), none, some (.int (vx_i z)), none, none, none] [] h (vx_RI (fun r h1 => h1 = h ∧ (0 ≤ r ∧ r < 512) ∧ vr_F a w m rr f h r.toNat)) := by
    intro n
    induction n with
    | zero =>
      intro k z hn hk hz2
      have hkw : k = w := by omega
      subst hkw
      refine vg_176_5 K.1 ob hT ?_
      rw [hw]
      refine ⟨by omega, fun _ => ?_, fun q => absurd q (by omega)⟩
      rw [vx_and511]
      refine vc_176_52 ob hT K hw C S hm hz hx hf 512 0 _ 0 none none rfl (by omega) rfl ?_ (fun t' ht' => by omega)
      unfold vr_h
      omega
    | succ n ih =>
      intro k z hn hk hz2
      refine vg_176_5 K.1 ob hT ?_
      rw [hw, show (x + z).toNat = from_ + k by omega, hf k (by omega)]
      exact ⟨by omega, fun q => absurd q (by omega), fun _ => ⟨by omega, ih (k + 1) (z + 1) (by omega) (by omega) (by omega)⟩⟩
  exact L w 0 0 (by omega) (by omega) rfl
end
/-- a table: its rows, all different -/
def vr_P (a w cnt : Nat) (rr : Nat → Nat → Int) (h : ve_H) : Prop := vx_J h a 0 = w ∧ vx_J h a 4 = cnt ∧ cnt ≤ 201 ∧ vr_C a w cnt rr h ∧ vr_S a w cnt rr h ∧ ∀ i j, i < cnt → j < cnt → vr_eq w (rr i) (rr j) → i = j
abbrev vr_W (a b k : Nat) : Prop := b = vx_r a 1 ∨ b = vx_r a 2 ∨ b = vx_r a 3 ∨ (b = a ∧ k = 4)
/-- the four cells of a table are different ones -/
theorem vr_ne {a : Nat} (o : vx_o 1 625 6 a) : vx_r a 1 ≠ vx_r a 2 ∧ vx_r a 1 ≠ vx_r a 3 ∧ vx_r a 2 ≠ vx_r a 3 ∧ a ≠ vx_r a 1 ∧ a ≠ vx_r a 2 ∧ a ≠ vx_r a 3 := by
  have h1 := (vx_f6_1 o).2
  have h2 := vx_f6_2 o
  have h3 := vx_f6_3 o
  have k0 := o.2
  have k1 := h1.2
  have k2 := h2.2.1.2
  have k3 := h3.2.1.2
  have z2 := h2.2.2
  have z3 := h3.2.2
  refine ⟨fun e => ?_, fun e => ?_, fun e => ?_, fun e => ?_, fun e => ?_, fun e => ?_⟩
  · rw [e, k2] at k1; omega
  · rw [e, k3] at k1; omega
  · rw [e, z3] at z2; omega
  · rw [e, k1] at k0; omega
  · rw [e, k2] at k0; omega
  · rw [e, k3] at k0; omega
