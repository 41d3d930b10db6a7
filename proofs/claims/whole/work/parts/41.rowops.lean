/-! Rows: find, add, clear, remove, count -/
section
variable {d a b w m cnt : Nat} {rr : Nat → Nat → Int} {f : Nat → Int} {h h1 : ve_H} {x : Int}
theorem vr_P_fr {S : Nat → Nat → Prop} (P : vr_P a w cnt rr h) (K : vr_K a w) (fr : vx_fr S h h1) (hs : ∀ b k, vr_W a b k ∨ (b = a ∧ k = 0) → ¬ S b k) : vr_P a w cnt rr h1 := by
  obtain ⟨p1, p2, p3, p4, ⟨pos, q1, q2, q3⟩, p6⟩ := P
  have e2 : ∀ s, vx_J h1 (vx_r a 2) s = vx_J h (vx_r a 2) s := fun s => vx_fr_J fr (hs _ _ (Or.inl (Or.inr (Or.inl rfl))))
  refine ⟨(vx_fr_J fr (hs _ _ (Or.inr ⟨rfl, rfl⟩))).trans p1, (vx_fr_J fr (hs _ _ (Or.inl (Or.inr (Or.inr (Or.inr ⟨rfl, rfl⟩)))))).trans p2, p3, fun i k hi hk => (vx_fr_K fr (hs _ _ (Or.inl (Or.inl rfl)))).trans (p4 i k hi hk), ⟨pos, fun i hi => ⟨(q1 i hi).1, (e2 _).trans (q1 i hi).2⟩, fun s hs2 hne => q2 s hs2 (by rw [e2] at hne; exact hne), fun i hi => ?_⟩, p6⟩
  obtain ⟨t, t1, t2, t3⟩ := q3 i hi
  exact ⟨t, t1, t2, fun t' ht' => by rw [e2]; exact t3 t' ht'⟩
theorem vc_217_5 {v : Int} (o : vx_o 1 625 20 a) (hv : vx_rI v) : ∀ (n k : Nat) (g : ve_H) (x y : Int), vx_za a - k = n → k ≤ vx_za a → x = k → y = (vx_za a : Nat) → vx_T 1 625 g → vx_fr (fun b _ => b = a) h g → (∀ j, j < k → vx_J g a j = v) → vx_W d 217 5 [some (.ref a), some (.int (vx_i v)), some (.int (vx_i x)), some (.int (vx_i y))] [] g (vx_RV (fun h1 => vx_fr (fun b _ => b = a) h h1 ∧ ∀ j, j < vx_za a → vx_J h1 a j = v)) := by
  have hza := vx_za_lt a
  intro n
  induction n with
  | zero =>
    intro k g x y hn hk hx hy hT hf hall
    exact vg_217_5 o hT ⟨by omega, by omega, fun _ => ⟨hf, fun j hj => hall j (by omega)⟩, fun q => absurd q (by omega)⟩
  | succ n ih =>
    intro k g x y hn hk hx hy hT hf hall
    refine vg_217_5 o hT ⟨by omega, by omega, fun q => absurd q (by omega), fun _ => ⟨by omega, fun h5 e5 T5 => ?_⟩⟩
    refine ih (k + 1) h5 _ _ (by omega) (by omega) (by omega) hy T5 (vx_fr_sJ hf e5 rfl) (fun j hj => ?_)
    rw [e5, vx_J_sJ hv]
    split
    · rfl
    · exact hall j (by omega)
theorem vc_217 {v : Int} (o : vx_o 1 625 20 a) (hT : vx_T 1 625 h) (hv : vx_rI v) : vx_CV d 217 [.ref a, .int (vx_i v)] h (fun h1 => vx_fr (fun b _ => b = a) h h1 ∧ ∀ j, j < vx_za a → vx_J h1 a j = v) :=
  vg_217 o hT (vc_217_5 o hv (vx_za a) 0 h 0 _ rfl (Nat.zero_le _) rfl rfl hT vx_fr_refl (fun j hj => by omega))
theorem vr_S_nil (K : vr_K a w) (hz : ∀ j, j < vx_za (vx_r a 2) → vx_J h (vx_r a 2) j = 0) : vr_S a w 0 rr h := by
  have z2 := (vx_f6_2 K.1).2.2
  refine ⟨fun _ => 0, fun i hi => absurd hi (by omega), fun s hs hne => absurd (hz s (by omega)) hne, fun i hi => absurd hi (by omega)⟩
theorem vc_172 (hT : vx_T 1 625 h) (K : vr_K a w) (hw : vx_J h a 0 = w) : vx_CV (d + 1) 172 [.ref a] h (fun h1 => vx_fr (vr_W a) h h1 ∧ vr_P a w 0 rr h1) := by
  obtain ⟨n1, n2, n3, n4, n5, n6⟩ := vr_ne K.1
  refine vg_172 K.1 hT (fun h1 e1 T1 => vx_CV_mono (vc_217 (vx_f6_2 K.1).2.1 T1 (by omega)) ?_)
  rintro h2 ⟨f2, z2⟩ _
  have f1 : vx_fr (vr_W a) h h1 := vx_fr_sJ vx_fr_refl e1 (by omega)
  refine ⟨vx_fr_trans f1 (vx_fr_mono f2 (by intro b k e; exact Or.inr (Or.inl e))), ?_, ?_, by omega, fun i k hi => absurd hi (by omega), vr_S_nil K z2, fun i j hi => absurd hi (by omega)⟩
  · rw [vx_fr_J f2 n5, e1, vx_J_ne (by omega), hw]
  · rw [vx_fr_J f2 n5, e1, vx_J_eq (by omega)]
    rfl
/-- what find answers -/
def vr_fd (w cnt : Nat) (rr : Nat → Nat → Int) (f : Nat → Int) (r : Int) : Prop := (∃ i : Nat, i < cnt ∧ r = i ∧ vr_eq w (rr i) f) ∨ (r = -1 ∧ ∀ i, i < cnt → ¬ vr_eq w (rr i) f)
theorem vc_173 (ob : vx_o 1 625 21 b) (hT : vx_T 1 625 h) (K : vr_K a w) (P : vr_P a w cnt rr h) (hz : w ≤ vx_za b) (hf : ∀ k, k < w → vx_K h b k = f k) : vx_CI (d + 1) 173 [.ref a, .ref b] h (fun r h1 => h1 = h ∧ vr_fd w cnt rr f r) := by
  obtain ⟨p1, p2, p3, p4, p5, p6⟩ := P
  refine vg_173 K.1 ob hT (vx_CI_mono (vc_176 (from_ := 0) (f := f) ob hT K p1 p4 p5 p3 (by omega) rfl (fun k hk => by rw [Nat.zero_add]; exact hf k hk)) ?_)
  rintro r1 h1 _ ⟨rfl, hr, hF⟩ _
  rcases hF with ⟨i, hi, he, hs⟩ | ⟨hno, hs, -⟩
  · rw [hs]
    exact ⟨hr, by omega, rfl, Or.inl ⟨i, hi, by omega, he⟩⟩
  · rw [hs]
    exact ⟨hr, by omega, rfl, Or.inr ⟨rfl, hno⟩⟩
def vr_ad (rr : Nat → Nat → Int) (cnt : Nat) (f : Nat → Int) : Nat → Nat → Int := fun i => if i = cnt then f else rr i
theorem vr_ad_lt {i : Nat} (hi : i < cnt) : vr_ad rr cnt f i = rr i := if_neg (by omega)
theorem vr_ad_eq : vr_ad rr cnt f cnt = f := if_pos rfl
/-- a slot for one row more -/
theorem vr_S_add {s t : Nat} (S : vr_S a w cnt rr h) (hc : cnt ≤ 201) (h0 : vx_J h (vx_r a 2) s = 0) (hs : s < 512) (ht : t < 512) (es : s = (vr_h w f + t) % 512) (hp : ∀ t', t' < t → vx_J h (vx_r a 2) ((vr_h w f + t') % 512) ≠ 0) (ej : ∀ j, vx_J h1 (vx_r a 2) j = if j = s then (cnt : Int) + 1 else vx_J h (vx_r a 2) j) : vr_S a w (cnt + 1) (vr_ad rr cnt f) h1 := by
  obtain ⟨pos, q1, q2, q3⟩ := S
  have ne : ∀ j, vx_J h (vx_r a 2) j ≠ 0 → vx_J h1 (vx_r a 2) j ≠ 0 := by
    intro j hj
    rw [ej]
    split
    · omega
    · exact hj
  refine ⟨fun i => if i = cnt then s else pos i, fun i hi => ?_, fun j hj hne => ?_, fun i hi => ?_⟩
  · show (if i = cnt then s else pos i) < 512 ∧ vx_J h1 (vx_r a 2) (if i = cnt then s else pos i) = (i : Int) + 1
    by_cases q : i = cnt
    · rw [if_pos q, ej, if_pos rfl, q]
      exact ⟨hs, rfl⟩
    · have a1 := q1 i (by omega)
      rw [if_neg q, ej, if_neg (fun e => by rw [e, h0] at a1; omega)]
      exact a1
  · by_cases q : j = s
    · exact ⟨cnt, by omega, by show (if cnt = cnt then s else pos cnt) = j; rw [if_pos rfl, q]⟩
    · rw [ej, if_neg q] at hne
      obtain ⟨i, hi, e⟩ := q2 j hj hne
      exact ⟨i, by omega, by show (if i = cnt then s else pos i) = j; rw [if_neg (by omega), e]⟩
  · show ∃ t, t < 512 ∧ (if i = cnt then s else pos i) = (vr_h w (vr_ad rr cnt f i) + t) % 512 ∧ _
    by_cases q : i = cnt
    · subst q
      rw [if_pos rfl, vr_ad_eq]
      exact ⟨t, ht, es, fun t' ht' => ne _ (hp t' ht')⟩
    · rw [if_neg q, vr_ad_lt (by omega)]
      obtain ⟨t2, a1, a2, a3⟩ := q3 i (by omega)
      exact ⟨t2, a1, a2, fun t' ht' => ne _ (a3 t' ht')⟩
/-- what add does -/
def vr_ap (a w cnt : Nat) (rr : Nat → Nat → Int) (f : Nat → Int) (h : ve_H) (r : Int) (h1 : ve_H) : Prop := vx_fr (vr_W a) h h1 ∧ ((r = -1 ∧ h1 = h ∧ ((∃ i, i < cnt ∧ vr_eq w (rr i) f) ∨ cnt = 201)) ∨ (r = cnt ∧ cnt ≤ 200 ∧ (∀ i, i < cnt → ¬ vr_eq w (rr i) f) ∧ vr_P a w (cnt + 1) (vr_ad rr cnt f) h1 ∧ vx_J h1 (vx_r a 3) cnt = cnt ∧ ∀ j, j ≠ cnt → vx_J h1 (vx_r a 3) j = vx_J h (vx_r a 3) j))
theorem vc_174 (ob : vx_o 1 625 21 b) (hT : vx_T 1 625 h) (K : vr_K a w) (P : vr_P a w cnt rr h) (hz : w ≤ vx_za b) (hf : ∀ k, k < w → vx_K h b k = f k) : vx_CI (d + 1) 174 [.ref a, .ref b] h (vr_ap a w cnt rr f h) := by
  obtain ⟨n1, n2, n3, n4, n5, n6⟩ := vr_ne K.1
  obtain ⟨p1, p2, p3, p4, p5, p6⟩ := P
  have hw8 : 1 ≤ w ∧ w ≤ 8 := by rcases K.2.1 with rfl | rfl <;> omega
  have hcw : ((cnt : Int) * (w : Int)).toNat = cnt * w := by rw [← Int.natCast_mul]; exact Int.toNat_natCast _
  refine vg_174 K.1 ob hT (vx_CI_mono (vc_176 (from_ := 0) (f := f) ob hT K p1 p4 p5 p3 (by omega) rfl (fun k hk => by rw [Nat.zero_add]; exact hf k hk)) ?_)
  rintro r1 h1 _ ⟨rfl, hr, hF⟩ _
  refine ⟨hr, fun q => ?_, fun q => ?_⟩
  · rcases hF with ⟨i, hi, he, hs⟩ | ⟨hno, hs, -⟩
    · exact ⟨vx_fr_refl, Or.inl ⟨rfl, rfl, Or.inl ⟨i, hi, he⟩⟩⟩
    · exact absurd hs q
  · rcases hF with ⟨i, hi, he, hs⟩ | ⟨hno, hs, t, t1, t2, t3⟩
    · exact absurd q (by omega)
    rw [p2, p1, Int.toNat_natCast, hcw]
    refine ⟨fun q2 => ⟨?_, fun h5 e5 T5 => ?_⟩, fun q2 => ⟨vx_fr_refl, Or.inl ⟨rfl, rfl, Or.inr (by omega)⟩⟩⟩
    · rw [K.2.2]
      rcases K.2.1 with rfl | rfl <;> omega
    have j5 : ∀ b k, vx_J h5 b k = vx_J h1 b k := fun b k => by rw [e5, vx_J_cp]
    rw [j5, p2, Int.toNat_natCast]
    refine ⟨by omega, fun h8 e8 T8 h9 e9 T9 => ?_⟩
    have c8 : vx_J h8 a 4 = cnt := by rw [e8, vx_J_ne (by omega), j5, p2]
    rw [c8] at e9
    have c9 : vx_J h9 a 4 = (cnt : Int) + 1 := by rw [e9, vx_J_eq (by omega)]
    rw [c9]
    refine ⟨hr, fun h11 e11 T11 => ?_⟩
    have c11 : vx_J h11 a 4 = (cnt : Int) + 1 := by rw [e11, vx_J_ne (by omega), c9]
    rw [c11]
    have F : vx_fr (vr_W a) h1 h11 := vx_fr_sJ (vx_fr_sJ (vx_fr_sJ (vx_fr_cp vx_fr_refl e5 (fun k _ _ => Or.inl rfl)) e8 (by omega)) e9 (by omega)) e11 (by omega)
    have sl : ∀ j, vx_J h11 (vx_r a 2) j = if j = r1.toNat then (cnt : Int) + 1 else vx_J h1 (vx_r a 2) j := by
      intro j
      rw [e11, vx_J_sJ (by omega)]
      by_cases qj : j = r1.toNat
      · rw [if_pos ⟨rfl, qj⟩, if_pos qj]
      · rw [if_neg (fun e => qj e.2), if_neg qj, e9, vx_J_ne (by omega), e8, vx_J_ne (by omega), j5]
    refine ⟨by omega, F, Or.inr ⟨by omega, by omega, hno, ⟨?_, by rw [c11]; omega, by omega, fun i k hi hk => ?_, vr_S_add p5 p3 q (by omega) t1 t2 t3 sl, fun i j hi hj e => ?_⟩, ?_, fun j hj => ?_⟩⟩
    · rw [e11, vx_J_ne (by omega), e9, vx_J_ne (by omega), e8, vx_J_ne (by omega), j5, p1]
    · rw [e11, vx_K_sJ, e9, vx_K_sJ, e8, vx_K_sJ, e5, vx_K_cp]
      by_cases qi : i = cnt
      · subst qi
        rw [if_pos ⟨rfl, by omega, by omega⟩, vr_ad_eq, show 0 + (i * w + k - i * w) = k by omega, hf k hk]
      · have hiw : i * w + k < cnt * w := by
          have : (i + 1) * w ≤ cnt * w := Nat.mul_le_mul_right w (by omega)
          rw [Nat.add_mul, Nat.one_mul] at this
          omega
        rw [if_neg (by omega), vr_ad_lt (by omega)]
        exact p4 i k (by omega) hk
    · by_cases qi : i = cnt
      · by_cases qj : j = cnt
        · rw [qi, qj]
        · subst qi
          rw [vr_ad_eq, vr_ad_lt (by omega)] at e
          exact absurd (fun k hk => (e k hk).symm) (hno j (by omega))
      · by_cases qj : j = cnt
        · subst qj
          rw [vr_ad_eq, vr_ad_lt (by omega)] at e
          exact absurd e (hno i (by omega))
        · rw [vr_ad_lt (by omega), vr_ad_lt (by omega)] at e
          exact p6 i j (by omega) (by omega) e
    · rw [e11, vx_J_ne (by omega), e9, vx_J_ne (by omega), e8, vx_J_eq (by omega)]
    · rw [e11, vx_J_ne (by omega), e9, vx_J_ne (by omega), e8, vx_J_ne (by omega), j5]
/-- the rows without one: the last takes its place -/
def vr_rm (rr : Nat → Nat → Int) (cnt i : Nat) : Nat → Nat → Int := fun j => if j = i then rr (cnt - 1) else rr j
theorem vr_rm_inj {i : Nat} (hi : i < cnt) (hd : ∀ i j, i < cnt → j < cnt → vr_eq w (rr i) (rr j) → i = j) : ∀ j k, j < cnt - 1 → k < cnt - 1 → vr_eq w (vr_rm rr cnt i j) (vr_rm rr cnt i k) → j = k := by
  intro j k hj hk e
  unfold vr_rm at e
  by_cases q1 : j = i
  · by_cases q2 : k = i
    · rw [q1, q2]
    · rw [if_pos q1, if_neg q2] at e
      have := hd (cnt - 1) k (by omega) (by omega) e
      omega
  · by_cases q2 : k = i
    · rw [if_neg q1, if_pos q2] at e
      have := hd j (cnt - 1) (by omega) (by omega) e
      omega
    · rw [if_neg q1, if_neg q2] at e
      exact hd j k (by omega) (by omega) e
theorem vr_S_congr {rr2 : Nat → Nat → Int} (S : vr_S a w m rr h) (e : ∀ i, i < m → vr_eq w (rr i) (rr2 i)) : vr_S a w m rr2 h := by
  obtain ⟨pos, q1, q2, q3⟩ := S
  refine ⟨pos, q1, q2, fun i hi => ?_⟩
  rw [← vr_h_congr (e i hi)]
  exact q3 i hi
theorem vc_175_63 {v : Int} (K : vr_K a w) (hc : cnt ≤ 201) (hd : ∀ i j, i < cnt → j < cnt → vr_eq w (rr i) (rr j) → i = j) : ∀ (n i : Nat) (g : ve_H) (y : Int), cnt - i = n → i ≤ cnt → y = i → vx_T 1 625 g → vx_fr (vr_W a) h g → vx_J g a 0 = w → vx_J g a 4 = cnt → vr_C a w cnt rr g → vr_S a w i rr g → (∀ j, vx_J g (vx_r a 3) j = vx_J h (vx_r a 3) j) →
    vx_W (d + 1) 175 63 [some (.ref a), some (.int (vx_i v)), some (.int (vx_i y))] [] g (vx_RV (fun h1 => vx_fr (vr_W a) h h1 ∧ vr_P a w cnt rr h1 ∧ ∀ j, vx_J h1 (vx_r a 3) j = vx_J h (vx_r a 3) j)) := by
  obtain ⟨n1, n2, n3, n4, n5, n6⟩ := vr_ne K.1
  have hw8 : 1 ≤ w ∧ w ≤ 8 := by rcases K.2.1 with rfl | rfl <;> omega
  intro n
  induction n with
  | zero =>
    intro i g y hn hi hy hT hf g0 g4 C S ho
    have hic : i = cnt := by omega
    subst hic
    refine vg_175_63 K.1 hT ⟨by omega, fun _ => ⟨hf, ⟨g0, g4, hc, C, S, hd⟩, ho⟩, fun q => absurd q (by omega)⟩
  | succ n ih =>
    intro i g y hn hi hy hT hf g0 g4 C S ho
    have hiw : (y * (w : Int)) = ((i * w : Nat) : Int) := by rw [hy, Int.natCast_mul]
    refine vg_175_63 K.1 hT ⟨by omega, fun q => absurd q (by omega), fun _ => ?_⟩
    rw [g0, hiw]
    have hbd : i * w + w ≤ vx_za (vx_r a 1) := by
      rw [K.2.2]
      rcases K.2.1 with rfl | rfl <;> omega
    refine vx_CI_mono (vc_176 (m := i) (f := rr i) (vx_f6_1 K.1).2 hT K g0 (fun j k hj hk => C j k (by omega) hk) S (by omega) hbd rfl (fun k hk => C i k (by omega) hk)) ?_
    rintro r3 h3 _ ⟨rfl, hr, hF⟩ _
    rcases hF with ⟨j, hj, he, hs⟩ | ⟨hno, hs, t, t1, t2, t3⟩
    · exact absurd (hd j i (by omega) (by omega) he) (by omega)
    refine ⟨hr, fun h5 e5 T5 => ?_⟩
    have S2 : vr_S a w (i + 1) (vr_ad rr i (rr i)) h5 := vr_S_add S (by omega) hs (by omega) t1 t2 t3 (fun j => by
      rw [e5, vx_J_sJ (by omega)]
      by_cases qj : j = r3.toNat
      · rw [if_pos ⟨rfl, qj⟩, if_pos qj, hy]
      · rw [if_neg (fun e => qj e.2), if_neg qj])
    refine ih (i + 1) h5 (y + 1) (by omega) (by omega) (by omega) T5 (vx_fr_sJ hf e5 (by omega)) ?_ ?_ (fun j k hj hk => ?_) (vr_S_congr S2 (fun j hj k hk => ?_)) (fun j => ?_)
    · rw [e5, vx_J_ne (by omega), g0]
    · rw [e5, vx_J_ne (by omega), g4]
    · rw [e5, vx_K_sJ]; exact C j k hj hk
    · by_cases qj : j = i
      · rw [qj, vr_ad_eq]
      · rw [vr_ad_lt (by omega)]
    · rw [e5, vx_J_ne (by omega), ho]
theorem vc_175 {i : Nat} (hT : vx_T 1 625 h) (K : vr_K a w) (P : vr_P a w cnt rr h) (hx : x = i) (hi : i < cnt) : vx_CV (d + 1) 175 [.ref a, .int (vx_i x)] h (fun h1 => vx_fr (vr_W a) h h1 ∧ vr_P a w (cnt - 1) (vr_rm rr cnt i) h1 ∧ ∀ j, vx_J h1 (vx_r a 3) j = vx_J h (vx_r a 3) j) := by
  obtain ⟨n1, n2, n3, n4, n5, n6⟩ := vr_ne K.1
  obtain ⟨p1, p2, p3, p4, p5, p6⟩ := P
  have hw8 : 1 ≤ w ∧ w ≤ 8 := by rcases K.2.1 with rfl | rfl <;> omega
  refine vg_175 K.1 hT ⟨by omega, fun q => absurd q (by omega), fun _ => ⟨fun _ h4 e4 T4 => ?_, fun q => absurd q (by omega)⟩⟩
  rw [p2] at e4
  have c4 : vx_J h4 a 4 = ((cnt - 1 : Nat) : Int) := by rw [e4, vx_J_eq (by omega)]; omega
  have c0 : vx_J h4 a 0 = w := by rw [e4, vx_J_ne (by omega), p1]
  have e1 : ((cnt - 1 : Nat) : Int) * (w : Int) = (((cnt - 1) * w : Nat) : Int) := (Int.natCast_mul _ _).symm
  have e2 : x * (w : Int) = ((i * w : Nat) : Int) := by rw [hx, Int.natCast_mul]
  rw [c4, c0, e1, e2, Int.toNat_natCast, Int.toNat_natCast, Int.toNat_natCast]
  refine ⟨?_, fun h5 e5 T5 => vx_CV_mono (vc_217 (vx_f6_2 K.1).2.1 T5 (by omega)) ?_⟩
  · rw [K.2.2]
    rcases K.2.1 with rfl | rfl <;> omega
  rintro h7 ⟨f7, z7⟩ T7
  have j5 : ∀ b k, vx_J h5 b k = vx_J h4 b k := fun b k => by rw [e5, vx_J_cp]
  have F5 : vx_fr (vr_W a) h h5 := vx_fr_cp (vx_fr_sJ vx_fr_refl e4 (by omega)) e5 (fun k _ _ => Or.inl rfl)
  refine vc_175_63 (rr := vr_rm rr cnt i) K (by omega) (vr_rm_inj hi p6) (cnt - 1) 0 h7 0 rfl (Nat.zero_le _) rfl T7 (vx_fr_trans F5 (vx_fr_mono f7 (by intro b k e; exact Or.inr (Or.inl e)))) ?_ ?_ (fun j k hj hk => ?_) (vr_S_nil K z7) (fun j => ?_)
  · rw [vx_fr_J f7 n5, j5, c0]
  · rw [vx_fr_J f7 n5, j5, c4]
  · rw [vx_fr_K f7 n1, e5, vx_K_cp]
    have hb : ∀ u v : Nat, u < v → u * w + w ≤ v * w := by
      intro u v huv
      have : (u + 1) * w ≤ v * w := Nat.mul_le_mul_right w huv
      rw [Nat.add_mul, Nat.one_mul] at this
      exact this
    by_cases qj : j = i
    · subst qj
      rw [if_pos ⟨rfl, by omega, by omega⟩, show (cnt - 1) * w + (j * w + k - j * w) = (cnt - 1) * w + k by omega, e4, vx_K_sJ, p4 (cnt - 1) k (by omega) hk]
      show _ = (if j = j then rr (cnt - 1) else rr j) k
      rw [if_pos rfl]
    · have : ¬ (i * w ≤ j * w + k ∧ j * w + k < i * w + w) := by
        rcases Nat.lt_or_gt_of_ne qj with q | q
        · have := hb j i q; omega
        · have := hb i j q; omega
      rw [if_neg (fun e => this e.2), e4, vx_K_sJ, p4 j k (by omega) hk]
      show _ = (if j = i then rr (cnt - 1) else rr j) k
      rw [if_neg qj]
  · rw [vx_fr_J f7 n3.symm, j5, e4, vx_J_ne (by omega)]
/-- how many of the first n are so -/
def vr_n (p : Nat → Bool) : Nat → Nat
  | 0 => 0
  | n + 1 => vr_n p n + (bif p n then 1 else 0)
theorem vr_n_le (p : Nat → Bool) : ∀ n, vr_n p n ≤ n
  | 0 => Nat.le_refl 0
  | n + 1 => by
    have := vr_n_le p n
    show vr_n p n + (bif p n then 1 else 0) ≤ n + 1
    cases p n with
    | true => show vr_n p n + 1 ≤ n + 1; omega
    | false => show vr_n p n + 0 ≤ n + 1; omega
theorem vc_177 (hT : vx_T 1 625 h) (K : vr_K a w) (P : vr_P a w cnt rr h) (hx : vx_rI x) : vx_CI d 177 [.ref a, .int (vx_i x)] h (fun r h1 => h1 = h ∧ r = (vr_n (fun i => decide (rr i 0 = x)) cnt : Nat)) := by
  obtain ⟨p1, p2, p3, p4, p5, p6⟩ := P
  have hw8 : 1 ≤ w ∧ w ≤ 8 := by rcases K.2.1 with rfl | rfl <;> omega
  refine vg_177 K.1 hT ?_
  have L : ∀ (n i : Nat) (y z : Int), cnt - i = n → i ≤ cnt → y = i → z = (vr_n (fun i => decide (rr i 0 = x)) i : Nat) → vx_W d 177 4 [some (.ref a), some (.int (vx_i x)), some (.int (vx_i z)), some (.int (vx_i y))] [] h (vx_RI (fun r h1 => h1 = h ∧ r = (vr_n (fun i => decide (rr i 0 = x)) cnt : Nat))) := by
    intro n
    induction n with
    | zero =>
      intro i y z hn hi hy hz
      have hic : i = cnt := by omega
      subst hic
      have := vr_n_le (fun i => decide (rr i 0 = x)) i
      refine vg_177_4 K.1 hT ⟨by omega, fun _ => ⟨by omega, rfl, hz⟩, fun q => absurd q (by omega)⟩
    | succ n ih =>
      intro i y z hn hi hy hz
      have hiw : y * (w : Int) = ((i * w : Nat) : Int) := by rw [hy, Int.natCast_mul]
      have hc := p4 i 0 (by omega) (by omega)
      rw [Nat.add_zero] at hc
      refine vg_177_4 K.1 hT ?_
      rw [p1, p2, hiw, Int.toNat_natCast, hc]
      have hbd : i * w < vx_za (vx_r a 1) := by
        rw [K.2.2]
        rcases K.2.1 with rfl | rfl <;> omega
      refine ⟨by omega, fun q => absurd q (by omega), fun _ => ⟨by omega, hx, fun q => ?_, fun q => ?_⟩⟩
      · refine ih (i + 1) (y + 1) z (by omega) (by omega) (by omega) ?_
        show z = ((vr_n (fun i => decide (rr i 0 = x)) i + (bif decide (rr i 0 = x) then 1 else 0) : Nat) : Int)
        rw [decide_eq_false q]
        exact hz
      · refine ih (i + 1) (y + 1) (z + 1) (by omega) (by omega) (by omega) ?_
        show z + 1 = ((vr_n (fun i => decide (rr i 0 = x)) i + (bif decide (rr i 0 = x) then 1 else 0) : Nat) : Int)
        rw [decide_eq_true q]
        show z + 1 = ((vr_n (fun i => decide (rr i 0 = x)) i + 1 : Nat) : Int)
        omega
  exact L cnt 0 0 0 (by omega) (by omega) rfl rfl
end
