/-! Which variables are bound; the class -/
/-- a set that holds what the literals bind -/
def vz_cl (L : vy_L) (S : Nat → Prop) : Prop := ∀ j, j < L.1 → (L.2.1 j = 14 → ∀ i, vz_lv L j i → S i) ∧ (L.2.1 j = 5 → (∀ i, vz_v (L.2.2.2.2 j 1) i → S i) → (∀ i, vz_v (L.2.2.2.2 j 2) i → S i) → ∀ i, vz_v (L.2.2.2.2 j 0) i → S i) ∧ (L.2.1 j = 61 → ((∀ i, vz_v (L.2.2.2.2 j 0) i → S i) ∨ (∀ i, vz_v (L.2.2.2.2 j 1) i → S i)) → (∀ i, vz_v (L.2.2.2.2 j 0) i → S i) ∧ (∀ i, vz_v (L.2.2.2.2 j 1) i → S i))
def vz_bd (L : vy_L) (i : Nat) : Prop := ∀ S, vz_cl L S → S i
noncomputable def vz_s (L : vy_L) (i : Nat) : Bool := @decide (vz_bd L i) (Classical.propDecidable _)
theorem vz_s_iff {L : vy_L} {i : Nat} : vz_s L i = true ↔ vz_bd L i := by unfold vz_s; exact @decide_eq_true_iff _ (Classical.propDecidable _)
theorem vz_v0 {i : Nat} : ¬ vz_v 0 i := fun t => by have := t.2; omega
/-- as many different ones as there are: all of them -/
theorem vz_pig : ∀ (n : Nat) (σ : Nat → Nat), (∀ e, e < n → σ e < n) → (∀ e e', e < n → e' < n → σ e = σ e' → e = e') → ∀ j, j < n → ∃ e, e < n ∧ σ e = j
  | 0, σ, _, _, j, hj => absurd hj (by omega)
  | n + 1, σ, h1, h2, j, hj => by
    have a0 := h1 n (by omega)
    have ih := vz_pig n (fun e => if σ e = n then σ n else σ e) (fun e he => by
      show (if σ e = n then σ n else σ e) < n
      by_cases q : σ e = n
      · rw [if_pos q]
        have : σ n ≠ n := fun t => by have := h2 e n (by omega) (by omega) (q.trans t.symm); omega
        omega
      · rw [if_neg q]; have := h1 e (by omega); omega) (fun e e' he he' t => by
      have t : (if σ e = n then σ n else σ e) = (if σ e' = n then σ n else σ e') := t
      by_cases q : σ e = n
      · by_cases q' : σ e' = n
        · exact h2 e e' (by omega) (by omega) (q.trans q'.symm)
        · rw [if_pos q, if_neg q'] at t
          have := h2 n e' (by omega) (by omega) t; omega
      · by_cases q' : σ e' = n
        · rw [if_neg q, if_pos q'] at t
          have := h2 e n (by omega) (by omega) t; omega
        · rw [if_neg q, if_neg q'] at t
          exact h2 e e' (by omega) (by omega) t)
    by_cases qa : j = σ n
    · exact ⟨n, by omega, qa.symm⟩
    by_cases qn : j = n
    · obtain ⟨e, he, t⟩ := ih (σ n) (by omega)
      have t : (if σ e = n then σ n else σ e) = σ n := t
      by_cases q : σ e = n
      · exact ⟨e, by omega, q.trans qn.symm⟩
      · rw [if_neg q] at t
        have := h2 e n (by omega) (by omega) t; omega
    · obtain ⟨e, he, t⟩ := ih j (by omega)
      have t : (if σ e = n then σ n else σ e) = j := t
      by_cases q : σ e = n
      · rw [if_pos q] at t; exact absurd t.symm qa
      · rw [if_neg q] at t; exact ⟨e, by omega, t⟩
section
variable {d o i : Nat} {h h1 : ve_H} {ts : vy_T} {V Pd : vy_V} {O : vy_O} {F : vy_F} {L : vy_L} {op : Bool} {x y : Int}
/-- the plan binds just what is bound -/
theorem vz_st_bd {O1 : Int} {m n : Nat} {σ : Nat → Nat} {b : Nat → Int} {g : ve_H} (W : vz_wf O1 m L) (S : vz_st g o L n σ b) (hn : n ≤ L.1) (hu : ∀ j, j < L.1 → (∀ e, e < n → σ e ≠ j) → n < L.1 → L.2.1 j ≠ 14 ∧ ¬ vz_rd (L.2.1 j) (L.2.2.2.2 j) (fun i => vb (b n) i = true)) (i : Nat) : vb (b n) i = true ↔ vz_bd L i := by
  obtain ⟨s1, s2, s3⟩ := S
  constructor
  · intro hb T hT
    have K : ∀ e, e ≤ n → ∀ i, vb (b e) i = true → T i := by
      intro e
      induction e with
      | zero =>
        intro _ i hi
        obtain ⟨e', he', -⟩ := ((s2 0 (by omega)).2 i).mp hi
        omega
      | succ e ih =>
        intro he i hi
        obtain ⟨e', he', hv⟩ := ((s2 (e + 1) he).2 i).mp hi
        by_cases q : e' < e
        · exact ih (by omega) i (((s2 e (by omega)).2 i).mpr ⟨e', q, hv⟩)
        · have qe : e' = e := by omega
          rw [qe] at hv
          obtain ⟨p1, -, -, p4, -⟩ := s1 e (by omega)
          obtain ⟨w1, w2, w3, -, -⟩ := W (σ e) p1
          obtain ⟨t1, t2, t3⟩ := hT (σ e) p1
          by_cases k14 : L.2.1 (σ e) = 14
          · exact t1 k14 i hv
          · obtain ⟨r1, r2, r3⟩ := p4 k14
            have ih := ih (by omega)
            obtain ⟨k, hk, hvk⟩ := hv
            by_cases k5 : L.2.1 (σ e) = 5
            · obtain ⟨u1, u2⟩ := r2 k5
              rcases (by omega : k = 0 ∨ k = 1 ∨ k = 2 ∨ k = 3) with rfl | rfl | rfl | rfl
              · exact t2 k5 (fun i hi => ih i (u1 i hi)) (fun i hi => ih i (u2 i hi)) i hvk
              · exact ih i (u1 i hvk)
              · exact ih i (u2 i hvk)
              · rw [(w2 k5).1] at hvk; exact absurd hvk vz_v0
            · by_cases k61 : L.2.1 (σ e) = 61
              · have u := t3 k61 ((r1 k61).imp (fun u i hi => ih i (u i hi)) (fun u i hi => ih i (u i hi)))
                have w := w3 (Or.inl k61)
                rcases (by omega : k = 0 ∨ k = 1 ∨ k = 2 ∨ k = 3) with rfl | rfl | rfl | rfl
                · exact u.1 i hvk
                · exact u.2 i hvk
                · rw [w.1] at hvk; exact absurd hvk vz_v0
                · rw [w.2] at hvk; exact absurd hvk vz_v0
              · exact ih i (r3 k61 k5 k hk i hvk)
    exact K n (Nat.le_refl _) i hb
  · intro hb
    refine hb (fun i => vb (b n) i = true) (fun j hj => ?_)
    by_cases q : ∃ e, e < n ∧ σ e = j
    · obtain ⟨e, he, rfl⟩ := q
      have ALL : ∀ k, k < 4 → ∀ i, vz_v (L.2.2.2.2 (σ e) k) i → vb (b n) i = true := fun k hk i hi => ((s2 n (Nat.le_refl _)).2 i).mpr ⟨e, he, k, hk, hi⟩
      exact ⟨fun _ i ⟨k, hk, hi⟩ => ALL k hk i hi, fun _ _ _ i hi => ALL 0 (by omega) i hi, fun _ _ => ⟨fun i hi => ALL 0 (by omega) i hi, fun i hi => ALL 1 (by omega) i hi⟩⟩
    · have hno : ∀ e, e < n → σ e ≠ j := fun e he t => q ⟨e, he, t⟩
      have hlt : n < L.1 := by
        rcases Nat.lt_or_eq_of_le hn with t | t
        · exact t
        · exact absurd (vz_pig n σ (fun e he => by have := (s1 e he).1; omega) s3 j (by omega)) q
      obtain ⟨a1, a2⟩ := hu j hj hno hlt
      refine ⟨fun t => absurd t a1, fun k5 c1 c2 => absurd ⟨fun t => absurd t (by omega), fun _ => ⟨c1, c2⟩, fun _ t => absurd k5 t⟩ a2, fun k61 c => absurd ⟨fun _ => c, fun t => absurd t (by omega), fun t => absurd k61 t⟩ a2⟩
/-- what a rule's head, or a question, asks to be bound -/
def vz_go (h : ve_H) (o n i : Nat) : Prop := if vx_J h o 0 = -1 then i < n else ∃ k, k < 4 ∧ vz_v (vx_K h (vx_r o 1) k) i
theorem vc_185 (ho : vx_o 1 625 7 o) (hT : vx_T 1 625 h) (C : vy_cl h o L) (h5 : vx_J h o 5 = V.1) (hV : V.1 ≤ 8) (h2 : vx_J h o 2 = O.1) : vx_CI (d + 4) 185 [.ref o] h (fun r h1 => ∃ G, (0 ≤ G ∧ G < 256) ∧ (∀ i, vb G i = true ↔ vz_go h o V.1 i) ∧ vz_pP o L O.1 G h r h1) := by
  have I := vz_rI ho
  have L6 := C.2.1
  have GO : ∀ (G : Int) (g : ve_H), (0 ≤ G ∧ G < 256) → (∀ i, vb G i = true ↔ vz_go h o V.1 i) → g = vx_sJ h o 15 (vx_J h o 6) → vx_T 1 625 g → vx_W (d + 3 + 1) 185 42 [some (.ref o), some (.int (vx_i G)), some (.int (vx_i 0)), some (.int (vx_i 0)), some (.int (vx_i 0)), none] [] g (vx_RI (fun r h1 => ∃ G, (0 ≤ G ∧ G < 256) ∧ (∀ i, vb G i = true ↔ vz_go h o V.1 i) ∧ vz_pP o L O.1 G h r h1)) := by
    intro G g hG hg e T
    have K := vc_185_42 (d := d) (h := h) (O1 := O.1) (G := G) ho C h2 hG L.1 0 (fun _ => 0) (fun _ => 0) g 0 0 none L.1 rfl (Nat.zero_le _) rfl T (vx_fr_sJ vx_fr_refl e (Or.inr (Or.inr (Or.inr ⟨rfl, rfl⟩)))) ⟨fun e he => absurd he (by omega), fun e he => ⟨by show (0 : Int) ≤ 0 ∧ (0 : Int) < 256; decide, fun i => ⟨fun t => absurd (vb_0.symm.trans t) (by decide), fun ⟨e', he', _⟩ => absurd he' (by omega)⟩⟩, fun e e' he => absurd he (by omega)⟩ (by decide) (fun j => ⟨fun t => absurd (vb_0.symm.trans t) (by decide), fun ⟨e', he', _⟩ => absurd he' (by omega)⟩) (by rw [e, vx_J_eq (vx_rI_J _ _ _), C.1]) (Nat.le_refl _) (fun t => absurd t (Nat.lt_irrefl _))
    obtain ⟨n, o', h', e', x, e1, e2, p⟩ := K
    exact ⟨n, o', h', e', x, e1, e2, G, hG, hg, p⟩
  refine vg_185 ho hT ⟨fun q h2' e2 T2 => ?_, fun q => ?_⟩
  · rw [h5]
    have hp := vx_shl1 (v := (V.1 : Int)) (by omega)
    rw [Int.toNat_natCast] at hp
    have hpw : 2 ^ V.1 ≤ 2 ^ 8 := Nat.pow_le_pow_right (by omega) hV
    have hp1 : 1 ≤ 2 ^ V.1 := Nat.one_le_two_pow
    have eG : vx_shl 1 (V.1 : Int) - 1 = ((2 ^ V.1 - 1 : Nat) : Int) := by
      rw [hp]
      generalize 2 ^ V.1 = p at hp1 ⊢
      omega
    rw [eG]
    refine GO _ h2' ?_ (fun i => ?_) e2 T2
    · generalize 2 ^ V.1 = p at hp1 hpw ⊢
      omega
    · unfold vb vz_go
      rw [if_pos q, Int.toNat_natCast, Nat.testBit_two_pow_sub_one, decide_eq_true_iff]
  · have o1 := vx_f7_1 ho
    refine vx_CI_mono (vc_190 (fr := 0) (m := 4) (d := d + 2) o1.2.1 (by rw [o1.2.2]; omega) (by rw [o1.2.2]; omega) hT rfl rfl) ?_
    rintro r3 h3 _ ⟨rfl, hr, hb⟩ T3 h4 e4 T4
    refine GO r3 h4 hr (fun i => ?_) e4 T4
    rw [hb i]
    unfold vz_go
    rw [if_neg q]
    constructor
    · rintro ⟨k, _, a2, a3⟩; exact ⟨k, by omega, a3⟩
    · rintro ⟨k, a2, a3⟩; exact ⟨k, by omega, by omega, a3⟩
/-- what is told of the variables that are not bound -/
def vz_un (s : Nat → Bool) (V : vy_V) (F : vy_F) : Nat → vy_F
  | 0 => F
  | n + 1 => if s n = true then vz_un s V F n else vy_nt (vz_un s V F n) 3 (V.2.2 n)
theorem vz_un_congr {s s' : Nat → Bool} : ∀ n, (∀ i, i < n → s i = s' i) → vz_un s V F n = vz_un s' V F n
  | 0, _ => rfl
  | n + 1, e => by
    show (if s n = true then vz_un s V F n else vy_nt (vz_un s V F n) 3 (V.2.2 n)) = (if s' n = true then vz_un s' V F n else vy_nt (vz_un s' V F n) 3 (V.2.2 n))
    rw [e n (by omega), vz_un_congr n (fun i hi => e i (by omega))]
theorem vz_un1 {s : Nat → Bool} (hF : F.1 ≠ 1) : ∀ n, (vz_un s V F n).1 ≠ 1
  | 0 => hF
  | n + 1 => by
    show (if s n = true then vz_un s V F n else vy_nt (vz_un s V F n) 3 (V.2.2 n)).1 ≠ 1
    have ih := vz_un1 (s := s) hF n
    split
    · exact ih
    · unfold vy_nt
      split
      · show (3 : Int) ≠ 1; omega
      · exact ih
theorem vc_153_2 (hx : 0 ≤ x ∧ x < 256) (h8 : ve_R h 7 8 = some o) (ho : vx_o 1 625 7 o) (h5 : vx_J h o 5 = V.1) (hV : V.1 ≤ 8) (hP : ∀ v, v < V.1 → vx_J h 20 v = V.2.2 v) : ∀ (m n : Nat) (g : ve_H) (z : Int), m = V.1 - n → n ≤ V.1 → z = n → vx_T 1 625 g → vx_fr (fun a k => a = 7 ∧ (k = 11 ∨ k = 12)) h g → vy_cf g (vz_un (vb x) V F n) → vx_W (d + 1) 153 2 [some (.ref 7), some (.int (vx_i x)), some (.int (vx_i z))] [] g (vx_RV (fun h1 => vx_fr (fun a k => a = 7 ∧ (k = 11 ∨ k = 12)) h h1 ∧ vy_cf h1 (vz_un (vb x) V F V.1))) := by
  have n7 := (vy_on ho).2.2.2.2.2.2.1
  intro m
  induction m with
  | zero =>
    intro n g z hm hn hz hT f C
    have c8 : ve_R g 7 8 = some o := (vx_fr_R f (by simp)).trans h8
    have c5 : vx_J g o 5 = V.1 := (vx_fr_J f (fun t => n7 t.1)).trans h5
    have e : n = V.1 := by omega
    refine vg_153_2 hT ⟨o, c8, ho, by omega, fun _ => ?_, fun q => absurd q (by omega)⟩
    rw [← e]; exact ⟨f, C⟩
  | succ m ih =>
    intro n g z hm hn hz hT f C
    have c8 : ve_R g 7 8 = some o := (vx_fr_R f (by simp)).trans h8
    have c5 : vx_J g o 5 = V.1 := (vx_fr_J f (fun t => n7 t.1)).trans h5
    have ht := vb_test (x := x) (v := z) (by omega) (by omega)
    rw [show z.toNat = n by omega] at ht
    have e0 : vz_un (vb x) V F (n + 1) = if vb x n = true then vz_un (vb x) V F n else vy_nt (vz_un (vb x) V F n) 3 (V.2.2 n) := rfl
    refine vg_153_2 hT ⟨o, c8, ho, by omega, fun q => absurd q (by omega), fun _ => ⟨fun q => ih (n + 1) g (z + 1) (by omega) (by omega) (by omega) hT f ?_, fun q => ⟨by omega, ?_⟩⟩⟩
    · rw [e0, if_pos]
      · exact C
      · cases hb : vb x n with
        | true => rfl
        | false => exact absurd (ht.mpr hb) q
    · rw [show z.toNat = n by omega, vx_fr_J f (by simp), hP n (by omega)]
      have hr : vx_rI (V.2.2 n) := by rw [← hP n (by omega)]; exact vx_rI_J _ _ _
      refine vx_CV_mono (vc_167 (k := 3) hT C (by decide) hr) ?_
      rintro h6 ⟨f6, C6⟩ T6
      refine ih (n + 1) h6 (z + 1) (by omega) (by omega) (by omega) T6 (vx_fr_trans f f6) ?_
      rw [e0, if_neg]
      · exact C6
      · rw [ht.mp q]; decide
theorem vc_153 (hT : vx_T 1 625 h) (hx : 0 ≤ x ∧ x < 256) (h8 : ve_R h 7 8 = some o) (ho : vx_o 1 625 7 o) (h5 : vx_J h o 5 = V.1) (hV : V.1 ≤ 8) (hP : ∀ v, v < V.1 → vx_J h 20 v = V.2.2 v) (C : vy_cf h F) : vx_CV (d + 1) 153 [.ref 7, .int (vx_i x)] h (fun h1 => vx_fr (fun a k => a = 7 ∧ (k = 11 ∨ k = 12)) h h1 ∧ vy_cf h1 (vz_un (vb x) V F V.1)) :=
  vg_153 hT (vc_153_2 hx h8 ho h5 hV hP V.1 0 h 0 rfl (Nat.zero_le _) rfl hT vx_fr_refl C)
end
