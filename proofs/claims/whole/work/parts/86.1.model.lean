/-! The model is made: the class -/
/-- the totals of a stratum have their ways -/
def vm_lg0 (S : vu_S) (st : Nat → Nat) (s : Nat) : Prop := ∀ r, r < S.2.2.1 → st (S.2.2.2.1 r).1.toNat = s → (S.2.2.2.1 r).2.2.1.1 ≠ -1 → ∃ l, vm_lg (S.2.2.2.1 r) (vm_mt S st s 0) l
/-- the program that the engine works -/
def vm_px (h : ve_H) (pi : Nat) (S : vu_S) (st : Nat → Nat) (N : Nat) : Prop := vu_cg h pi S.1 S.2.2.1 S.2.2.2.1 ∧ vs_cs h pi st ∧ ve_R h 21 6 = some pi ∧ vr_P (pi + 6) 5 S.2.2.2.2.1 S.2.2.2.2.2 h ∧ vx_J h pi 8 = N ∧ vx_J h 34 0 = (5 : Nat)
abbrev vm_Wm (a k : Nat) : Prop := (a = 21 ∧ 7 ≤ k) ∨ vm_Wn a k
def vm_Ir (S : vu_S) (st : Nat → Nat) (s t c0 : Nat) (r0 : Nat → Nat → Int) (m0 : Nat → Int) (N r : Nat) (g : ve_H) : Prop := (vx_J g 21 12 = 0 ∧ ∃ cnt rr cm, vm_Qr S st s t c0 r0 m0 g cnt rr cm ∧ ∀ r', r' < r → st (S.2.2.2.1 r').1.toNat = s → (∀ f, vm_nr (S.2.2.2.1 r') (t = 0) (vm_mt S st s t) f → ∃ i, i < cnt ∧ vr_eq 5 (rr i) f) ∧ (t = 0 → (S.2.2.2.1 r').2.2.1.1 ≠ -1 → ∃ l, vm_lg (S.2.2.2.1 r') (vm_mt S st s 0) l)) ∨ (vx_J g 21 12 ≠ 0 ∧ vm_en g ∧ vm_big S st N)
def vm_Io (S : vu_S) (st : Nat → Nat) (s t c0 N : Nat) (g : ve_H) : Prop := (vx_J g 21 12 = 0 ∧ ∃ cnt rr cm, vm_M g cnt rr cm ∧ vm_id g 25 cnt ∧ cnt ≤ 200 ∧ vm_lv S st s (t + 1) cnt rr cm ∧ (t = 0 → vm_lg0 S st s) ∧ c0 ≤ cnt ∧ (cnt = c0 → ∀ f, vm_mt S st s (t + 1) f → vm_mt S st s t f)) ∨ (vx_J g 21 12 ≠ 0 ∧ vm_en g ∧ vm_big S st N)
def vm_It (S : vu_S) (st : Nat → Nat) (s t N : Nat) (v : Int) (g : ve_H) : Prop := (vx_J g 21 12 = 0 ∧ ∃ cnt rr cm, vm_M g cnt rr cm ∧ vm_id g 25 cnt ∧ cnt ≤ 200 ∧ vm_lv S st s t cnt rr cm ∧ (1 ≤ t → vm_lg0 S st s) ∧ ((v ≠ cnt ∧ t ≤ cnt) ∨ (v = cnt ∧ 1 ≤ t ∧ ∀ f, vm_mt S st s t f → vm_mt S st s (t - 1) f))) ∨ (vx_J g 21 12 ≠ 0 ∧ vm_en g ∧ vm_big S st N)
def vm_Is (S : vu_S) (st : Nat → Nat) (s N : Nat) (g : ve_H) : Prop := (vx_J g 21 12 = 0 ∧ ∃ cnt rr cm, vm_M g cnt rr cm ∧ vm_id g 25 cnt ∧ cnt ≤ 200 ∧ vm_lb S st s cnt rr cm ∧ ∀ s', s' < s → vm_lg0 S st s') ∨ (vx_J g 21 12 ≠ 0 ∧ vm_en g ∧ vm_big S st N)
section
variable {d pi : Nat} {S : vu_S} {st : Nat → Nat} {s t N c0 cnt : Nat} {r0 rr : Nat → Nat → Int} {m0 cm : Nat → Int} {h h1 g : ve_H} {P : Int → ve_H → Prop} {v2 v3 v4 x : Int}
theorem vm_px_fr {Sx : Nat → Nat → Prop} (X : vm_px h pi S st N) (F : vx_fr Sx h h1) (hs : ∀ a k, Sx a k → vm_Wm a k) : vm_px h1 pi S st N := by
  obtain ⟨x1, x2, x3, x4, x5, x6⟩ := X
  have opi := x1.1.1
  have ppo := (vx_po opi).2.2.2.2.2.2
  have fK := vu_fK opi
  have n : ∀ a k, pi ≤ a → a < pi + 289 → ¬ Sx a k := fun a k a1 a2 q => absurd (hs a k q) (by omega)
  refine ⟨vu_cg_fr x1 F ⟨⟨n pi 6 (by omega) (by omega), n pi 7 (by omega) (by omega)⟩, fun k => ⟨n _ k (by omega) (by omega), n _ k (by omega) (by omega)⟩, fun a k a1 a2 => n a k (by omega) a2⟩, fun p hp => (vx_fr_J F (n _ p (by omega) (by omega))).trans (x2 p hp), (vx_fr_R F (fun q => absurd (hs _ _ q) (by omega))).trans x3, vr_P_fr x4 fK.1 F (fun b k q => ?_), (vx_fr_J F (n pi 8 (by omega) (by omega))).trans x5, (vx_fr_J F (fun q => absurd (hs _ _ q) (by omega))).trans x6⟩
  have := fK.2
  exact n b k (by omega) (by omega)
/-- behind a round -/
theorem vm_round (PG : vm_pg S st) (V : vm_lv S st s t c0 r0 m0) (Q : vm_Qr S st s t c0 r0 m0 g cnt rr cm) (al : ∀ r', r' < S.2.2.1 → st (S.2.2.2.1 r').1.toNat = s → (∀ f, vm_nr (S.2.2.2.1 r') (t = 0) (vm_mt S st s t) f → ∃ i, i < cnt ∧ vr_eq 5 (rr i) f) ∧ (t = 0 → (S.2.2.2.1 r').2.2.1.1 ≠ -1 → ∃ l, vm_lg (S.2.2.2.1 r') (vm_mt S st s 0) l)) : vm_lv S st s (t + 1) cnt rr cm ∧ (t = 0 → vm_lg0 S st s) ∧ c0 ≤ cnt ∧ (cnt = c0 → ∀ f, vm_mt S st s (t + 1) f → vm_mt S st s t f) := by
  obtain ⟨q1, q2, q3, q4, q5⟩ := Q
  have E : ∀ f, vm_mt S st s (t + 1) f ↔ ∃ i, i < cnt ∧ vr_eq 5 (rr i) f := by
    intro f
    constructor
    · rintro (q | ⟨r, r1, r2, r3⟩)
      · exact vm_bs_in V q4 q
      · exact (al r r1 r2).1 f r3
    · rintro ⟨i, i1, i2⟩
      exact vm_rd_cg vm_ba_cg _ _ _ i2 (q5 i i1)
  refine ⟨⟨E, q4.2.2.2, fun i hi => ?_⟩, fun t0 r r1 r2 r3 => (al r r1 r2).2 t0 r3, q4.1, fun e f q => ?_⟩
  · by_cases qi : i < c0
    · obtain ⟨s', t', a1, a2, a3, a4, a5⟩ := V.2.2 i qi
      have e := (q4.2.1 i qi).1
      exact ⟨s', t', by rw [e 0 (by omega)]; exact a1, by rw [(q4.2.1 i qi).2]; exact a2, vm_rd_cg vm_ba_cg _ _ _ (vr_eq_symm e) a3, fun t'' ht q => a4 t'' ht (vm_rd_cg vm_ba_cg _ _ _ e q), fun es => by have := a5 es; omega⟩
    · obtain ⟨b1, p, b2, b3⟩ := q4.2.2.1 i (by omega) hi
      refine ⟨s, t + 1, by rw [b2, show ((p : Nat) : Int).toNat = p by omega]; omega, by rw [b1]; omega, q5 i hi, fun t'' ht q => ?_, fun _ => Nat.le_refl _⟩
      obtain ⟨j, j1, j2⟩ := (V.1 _).mp (vm_rd_mono (show t'' ≤ t by omega) q)
      have := q1.1.2.2.2.2.2 j i (by omega) hi (vr_eq_trans (q4.2.1 j j1).1 j2)
      omega
  · obtain ⟨i, i1, i2⟩ := (E f).mp q
    have qi : i < c0 := by omega
    exact (V.1 f).mpr ⟨i, qi, vr_eq_trans (vr_eq_symm (q4.2.1 i qi).1) i2⟩
theorem vm_93 (PG : vm_pg S st) (hsN : s < N) (ht : t ≤ 300) (V : vm_lv S st s t c0 r0 m0) (X : vm_px h pi S st N) (h9 : vx_J h 21 9 = s) (h10 : vx_J h 21 10 = (t : Int) + 1)
    (K : ∀ g v5, vx_T 1 625 g → vx_fr vm_Wr h g → vm_Io S st s t c0 N g → vx_W (d + 11 + 1) 105 51 [some (.ref 21), some (.ref pi), some (.int (vx_i v2)), some (.int (vx_i v3)), some (.int (vx_i (v4 + 1))), v5] [] g (vx_RI P)) :
    ∀ (m r : Nat) (g : ve_H) (z : Int), m = S.2.2.1 - r → r ≤ S.2.2.1 → z = r → vx_T 1 625 g → vx_fr vm_Wr h g → vm_Ir S st s t c0 r0 m0 N r g → vx_W (d + 11 + 1) 105 93 [some (.ref 21), some (.ref pi), some (.int (vx_i v2)), some (.int (vx_i v3)), some (.int (vx_i v4)), some (.int (vx_i z))] [] g (vx_RI P) := by
  have opi := X.1.1.1
  have n30 := PG.2.2.2.2
  intro m
  induction m with
  | zero =>
    intro r g z hm hr hz hT F I
    have Xg := vm_px_fr X F (fun a k q => by omega)
    have e7 : vx_J g pi 7 = S.2.2.1 := Xg.1.2.1
    refine vg_105_93 opi hT ⟨pi, Xg.2.2.1, opi, by omega, fun _ => K g _ hT F ?_, fun q => absurd q (by omega)⟩
    rcases I with ⟨j0, cnt, rr, cm, Q, al⟩ | I
    · exact Or.inl ⟨j0, cnt, rr, cm, Q.1, Q.2.1, Q.2.2.1, vm_round PG V Q (fun r' hr' => al r' (by omega))⟩
    · exact Or.inr I
  | succ m ih =>
    intro r g z hm hr hz hT F I
    have Xg := vm_px_fr X F (fun a k q => by omega)
    have e7 : vx_J g pi 7 = S.2.2.1 := Xg.1.2.1
    have hr' : r < S.2.2.1 := by omega
    refine vg_105_93 opi hT ⟨pi, Xg.2.2.1, opi, by omega, fun q => absurd q (by omega), fun _ => ⟨fun jq => K g _ hT F ?_, fun jq => ⟨by omega, ?_⟩⟩⟩
    · rcases I with ⟨j0, _⟩ | I
      · exact absurd j0 jq
      · exact Or.inr I
    · rw [show z.toNat = r by omega, vx_ru opi (by omega)]
      rcases I with ⟨j0, cnt, rr, cm, Q, al⟩ | ⟨j1, _⟩
      · have C : vm_rc g pi S st s ((t : Int) + 1) := ⟨Xg.1, Xg.2.1, Xg.2.2.1, (vx_fr_J F (by omega)).trans h9, (vx_fr_J F (by omega)).trans h10, Xg.2.2.2.2.2⟩
        refine vx_CV_mono (vc_107 (d := d) (N := N) PG hr' hsN ht V C hT Q j0) ?_
        rintro h6 ⟨F6, q6⟩ hT6
        refine ih (r + 1) h6 (z + 1) (by omega) (by omega) (by omega) hT6 (vx_fr_trans F F6) ?_
        rcases q6 with ⟨j6, cnt1, rr1, cm1, Q1, ke, nw⟩ | q6
        · refine Or.inl ⟨j6, cnt1, rr1, cm1, Q1, fun r' h1' h2' => ?_⟩
          by_cases e : r' = r
          · rw [e] at h2' ⊢; exact nw h2'
          · have a := al r' (by omega) h2'
            refine ⟨fun f hf => ?_, a.2⟩
            obtain ⟨i, i1, i2⟩ := a.1 f hf
            obtain ⟨j, j1, j2⟩ := ke i i1
            exact ⟨j, j1, vr_eq_trans j2 i2⟩
        · exact Or.inr q6
      · exact absurd jq j1
/-- a stratum's rounds -/
theorem vm_51 (PG : vm_pg S st) (hsN : s < N) (X : vm_px h pi S st N) (h9 : vx_J h 21 9 = s)
    (K : ∀ g v3 v4 v5, vx_T 1 625 g → vx_fr vm_Wm h g → ((vx_J g 21 12 = 0 ∧ ∃ cnt rr cm, vm_M g cnt rr cm ∧ vm_id g 25 cnt ∧ cnt ≤ 200 ∧ vm_lb S st (s + 1) cnt rr cm ∧ vm_lg0 S st s) ∨ (vx_J g 21 12 ≠ 0 ∧ vm_en g ∧ vm_big S st N)) → vx_W (d + 11 + 1) 105 19 [some (.ref 21), some (.ref pi), some (.int (vx_i (v2 + 1))), v3, v4, v5] [] g (vx_RI P)) :
    ∀ (m t : Nat) (g : ve_H) (v3 z : Int) (v5 : Option Value), m = 203 - t → t ≤ 202 → z = (t : Int) + 1 → vx_rI v3 → vx_T 1 625 g → vx_fr vm_Wm h g → vx_J g 21 9 = s → vm_It S st s t N v3 g → vx_W (d + 11 + 1) 105 51 [some (.ref 21), some (.ref pi), some (.int (vx_i v2)), some (.int (vx_i v3)), some (.int (vx_i z)), v5] [] g (vx_RI P) := by
  have opi := X.1.1.1
  have hW := vm_pg_W PG
  intro m
  induction m with
  | zero => intro t g v3 z v5 hm ht; exact absurd hm (by omega)
  | succ m ih =>
    intro t g v3 z v5 hm ht hz hv3 hT F hg9 I
    have Xg := vm_px_fr X F (fun a k q => q)
    rcases I with ⟨j0, cnt, rr, cm, M, Id, hc, V, LG, alt⟩ | ⟨j1, e1, b1⟩
    · have c4 : vx_J g 23 4 = cnt := M.1.2.1
      -- the stratum ends
      have fin : ((v3 = cnt) ∨ 201 < z) → vx_W (d + 11 + 1) 105 19 [some (.ref 21), some (.ref pi), some (.int (vx_i (v2 + 1))), some (.int (vx_i v3)), some (.int (vx_i z)), v5] [] g (vx_RI P) := by
        intro q
        have cl : 1 ≤ t ∧ ∀ f, vm_mt S st s t f → vm_mt S st s (t - 1) f := by
          rcases alt with ⟨a1, a2⟩ | ⟨a1, a2, a3⟩
          · omega
          · exact ⟨a2, a3⟩
        refine K g _ _ _ hT F (Or.inl ⟨j0, cnt, rr, cm, M, Id, hc, ⟨fun f => ?_, V.2.1, fun i hi => ?_⟩, LG cl.1⟩)
        · rw [← V.1 f]
          constructor
          · rintro ⟨t', q⟩
            have c2 := cl.2
            have e : t = t - 1 + 1 := by omega
            rw [e] at c2
            have := vm_fix (t := t - 1) (f := f) c2 t' q
            exact vm_rd_mono (by omega) this
          · exact fun q => ⟨t, q⟩
        · obtain ⟨s', t', a1, a2, a3, a4, _⟩ := V.2.2 i hi
          exact ⟨s', t', a1, a2, a3, a4⟩
      refine vg_105_51 opi hT ⟨by omega, fun q => fin (Or.inr q), fun q => ⟨hv3, fun q2 => fin (Or.inl (by omega)), fun q2 => ?_⟩⟩
      rintro g5 e5 hT5
      have F5 : vx_fr (fun a k => a = 21 ∧ k = 10) g g5 := vx_fr_sJ vx_fr_refl e5 ⟨rfl, rfl⟩
      have M5 : vm_M g5 cnt rr cm := vm_M_fr M F5 (fun a k q => by omega)
      have c5 : vx_J g5 23 4 = cnt := M5.1.2.1
      have t_c : t ≤ cnt := by
        rcases alt with ⟨_, a2⟩ | ⟨a1, _⟩
        · exact a2
        · omega
      have X5 := vm_px_fr Xg F5 (fun a k q => by omega)
      have B0 : vm_bs cnt rr cm st s ((t : Int) + 1) cnt rr cm := vm_bs_st V.2.1
      refine vm_93 (d := d) (h := g5) (v2 := v2) (v3 := vx_J g5 23 4) (v4 := z) PG hsN (by omega) V X5 ((vx_fr_J F5 (by omega)).trans hg9) (by rw [e5, vx_J_eq (by omega)]; exact hz) (fun g' v5' hT' F' I' => ?_) S.2.2.1 0 g5 0 (by omega) (by omega) rfl hT5 vx_fr_refl (Or.inl ⟨(vx_fr_J F5 (by omega)).trans j0, cnt, rr, cm, ⟨M5, fun i hi => (vx_fr_J F5 (by omega)).trans (Id i hi), hc, B0, fun i hi => vm_rd_mono (Nat.le_succ t) ((V.1 _).mpr ⟨i, hi, fun _ _ => rfl⟩)⟩, fun r' hr' => absurd hr' (by omega)⟩)
      have FF : vx_fr vm_Wm h g' := vx_fr_trans F (vx_fr_trans (vx_fr_mono F5 (fun a k q => by omega)) (vx_fr_mono F' (fun a k q => by omega)))
      refine ih (t + 1) g' _ (z + 1) v5' (by omega) (by omega) (by omega) (by omega) hT' FF ((vx_fr_J F' (by omega)).trans ((vx_fr_J F5 (by omega)).trans hg9)) ?_
      rcases I' with ⟨j', cnt', rr', cm', M', Id', hc', V', LG', cc, fx⟩ | I'
      · refine Or.inl ⟨j', cnt', rr', cm', M', Id', hc', V', fun _ => ?_, ?_⟩
        · by_cases t0 : t = 0
          · exact LG' t0
          · exact LG (by omega)
        · rw [c5]
          by_cases e : cnt' = cnt
          · exact Or.inr ⟨by omega, by omega, by rw [show t + 1 - 1 = t by omega]; exact fx e⟩
          · exact Or.inl ⟨by omega, by omega⟩
      · exact Or.inr I'
    · have fin : ∀ g', vx_T 1 625 g' → vx_fr (fun a k => a = 21 ∧ k = 10) g g' → ∀ v3 v4 v5, vx_W (d + 11 + 1) 105 19 [some (.ref 21), some (.ref pi), some (.int (vx_i (v2 + 1))), v3, v4, v5] [] g' (vx_RI P) := fun g' hT' F' v3 v4 v5 => K g' v3 v4 v5 hT' (vx_fr_trans F (vx_fr_mono F' (fun a k q => by omega))) (Or.inr ⟨by rw [vx_fr_J F' (by omega)]; exact j1, by
        obtain ⟨cnt, rr, cm, M, Id⟩ := e1
        exact ⟨cnt, rr, cm, vm_M_fr M F' (fun a k q => by omega), fun i hi => (vx_fr_J F' (by omega)).trans (Id i hi)⟩, b1⟩)
      refine vg_105_51 opi hT ⟨by omega, fun _ => fin g hT vx_fr_refl _ _ _, fun q => ⟨hv3, fun _ => fin g hT vx_fr_refl _ _ _, fun _ => ?_⟩⟩
      rintro g5 e5 hT5
      have F5 : vx_fr (fun a k => a = 21 ∧ k = 10) g g5 := vx_fr_sJ vx_fr_refl e5 ⟨rfl, rfl⟩
      have X5 := vm_px_fr Xg F5 (fun a k q => by omega)
      have j5 : vx_J g5 21 12 ≠ 0 := by rw [vx_fr_J F5 (by omega)]; exact j1
      have nx : vx_W (d + 11 + 1) 105 51 [some (.ref 21), some (.ref pi), some (.int (vx_i v2)), some (.int (vx_i (vx_J g5 23 4))), some (.int (vx_i (z + 1))), some (.int (vx_i 0))] [] g5 (vx_RI P) := vg_105_51 opi hT5 ⟨by omega, fun _ => fin g5 hT5 F5 _ _ _, fun _ => ⟨vx_rI_J _ _ _, fun _ => fin g5 hT5 F5 _ _ _, fun t => absurd rfl t⟩⟩
      exact vg_105_93 opi hT5 ⟨pi, X5.2.2.1, opi, by decide, fun _ => nx, fun _ => ⟨fun _ => nx, fun t => absurd t j5⟩⟩
/-- how the making of a model ends -/
def vm_mP (S : vu_S) (st : Nat → Nat) (N : Nat) (h : ve_H) (r : Int) (h1 : ve_H) : Prop := vx_fr (fun a k => a = 21 ∧ k = 6 ∨ vm_Wm a k) h h1 ∧ ((r = 1 ∧ ∃ cnt rr cm o, vm_M h1 cnt rr cm ∧ cnt ≤ 200 ∧ vm_lb S st N cnt rr cm ∧ (∀ s, s < N → vm_lg0 S st s) ∧ vr_so 5 rr o cnt ∧ ∀ j, j < cnt → vx_J h1 25 j = o j) ∨ (r = 0 ∧ vm_big S st N ∧ vx_J h1 23 0 = (5 : Nat)))
theorem vm_19 (PG : vm_pg S st) (c200 : S.2.2.2.2.1 ≤ 200) (hN : N ≤ 17) {h0 : ve_H} (F0 : vx_fr (fun a k => a = 21 ∧ k = 6 ∨ vm_Wm a k) h0 h) (X : vm_px h pi S st N) :
    ∀ (m s : Nat) (g : ve_H) (z : Int) (v3 v4 v5 : Option Value), m = N - s → s ≤ N → z = s → vx_T 1 625 g → vx_fr vm_Wm h g → vm_Is S st s N g → vx_W (d + 11 + 1) 105 19 [some (.ref 21), some (.ref pi), some (.int (vx_i z)), v3, v4, v5] [] g (vx_RI (vm_mP S st N h0)) := by
  have opi := X.1.1.1
  have kk := vm_K23
  have FS : ∀ {g g' : ve_H}, vx_fr vm_Wm h g → vx_fr (vr_Wo 23) g g' → vx_fr (fun a k => a = 21 ∧ k = 6 ∨ vm_Wm a k) h0 g' := fun F F' => vx_fr_trans F0 (vx_fr_trans (vx_fr_mono F (fun a k q => Or.inr q)) (vx_fr_mono F' (fun a k q => by have := kk.2.2.2; omega)))
  -- sort, and the end
  have endA : ∀ {g : ve_H} {cnt : Nat} {rr : Nat → Nat → Int} {cm : Nat → Int}, vx_T 1 625 g → vx_fr vm_Wm h g → vx_J g 21 12 = 0 → vm_M g cnt rr cm → vm_id g 25 cnt → cnt ≤ 200 → vm_lb S st N cnt rr cm → (∀ s, s < N → vm_lg0 S st s) → vx_CV (d + 11) 178 [.ref 23] g (fun h4 => vx_T 1 625 h4 → (((vx_J h4 21 12) ≠ 0 → vm_mP S st N h0 0 h4) ∧ ((vx_J h4 21 12) = 0 → vm_mP S st N h0 1 h4))) := by
    intro g cnt rr cm hT F j0 M Id hc V LG
    refine vx_CV_mono (vc_178 (d := d + 10) hT kk.1 M.1 (fun j hj => by rw [kk.2.2.2]; exact Id j hj)) ?_
    rintro h4 ⟨F4, o, so, oj⟩ _
    have j4 : vx_J h4 21 12 = 0 := (vx_fr_J F4 (by have := kk.2.2.2; omega)).trans j0
    have M4 : vm_M h4 cnt rr cm := by
      obtain ⟨m1, m2, m3⟩ := M
      have e : ∀ a k, a ≠ 25 → vx_J h4 a k = vx_J g a k := fun a k q => vx_fr_J F4 (by have := kk.2.2.2; omega)
      refine ⟨vr_P_o kk.1 m1 F4, fun i hi => (e 27 i (by decide)).trans (m2 i hi), fun p hp => ?_⟩
      rw [e 29 p (by decide), e 30 p (by decide)]
      exact ⟨vm_ch_fr (m3 p hp).1 (fun i _ => e 28 i (by decide)), (m3 p hp).2⟩
    refine ⟨fun t => absurd j4 t, fun _ => ⟨FS F F4, Or.inl ⟨rfl, cnt, rr, cm, o, M4, hc, V, LG, so, fun j hj => by rw [← kk.2.2.2]; exact oj j hj⟩⟩⟩
  have endB : ∀ {g : ve_H}, vx_T 1 625 g → vx_fr vm_Wm h g → vx_J g 21 12 ≠ 0 → vm_en g → vm_big S st N → vx_CV (d + 11) 178 [.ref 23] g (fun h4 => vx_T 1 625 h4 → (((vx_J h4 21 12) ≠ 0 → vm_mP S st N h0 0 h4) ∧ ((vx_J h4 21 12) = 0 → vm_mP S st N h0 1 h4))) := by
    rintro g hT F j1 ⟨cnt, rr, cm, M, Id⟩ big
    refine vx_CV_mono (vc_178 (d := d + 10) hT kk.1 M.1 (fun j hj => by rw [kk.2.2.2]; exact Id j hj)) ?_
    rintro h4 ⟨F4, _⟩ _
    have j4 : vx_J h4 21 12 = vx_J g 21 12 := vx_fr_J F4 (by have := kk.2.2.2; omega)
    refine ⟨fun _ => ⟨FS F F4, Or.inr ⟨rfl, big, (vx_fr_J F4 (by have := kk.2.2.2; omega)).trans M.1.1⟩⟩, fun t => absurd (j4.symm.trans t) j1⟩
  intro m
  induction m with
  | zero =>
    intro s g z v3 v4 v5 hm hs hz hT F I
    have Xg := vm_px_fr X F (fun a k q => q)
    have e8 : vx_J g pi 8 = N := Xg.2.2.2.2.1
    have es : s = N := by omega
    subst es
    refine vg_105_19 opi hT ⟨pi, Xg.2.2.1, opi, by omega, fun _ => ?_, fun q => absurd q (by omega)⟩
    rcases I with ⟨j0, cnt, rr, cm, M, Id, hc, V, LG⟩ | ⟨j1, e1, b1⟩
    · exact endA hT F j0 M Id hc V LG
    · exact endB hT F j1 e1 b1
  | succ m ih =>
    intro s g z v3 v4 v5 hm hs hz hT F I
    have Xg := vm_px_fr X F (fun a k q => q)
    have e8 : vx_J g pi 8 = N := Xg.2.2.2.2.1
    refine vg_105_19 opi hT ⟨pi, Xg.2.2.1, opi, by omega, fun q => absurd q (by omega), fun _ => ⟨fun jq => ?_, fun jq => ?_⟩⟩
    · rcases I with ⟨j0, _⟩ | ⟨j1, e1, b1⟩
      · exact absurd j0 jq
      · exact endB hT F j1 e1 b1
    · rcases I with ⟨j0, cnt, rr, cm, M, Id, hc, V, LG⟩ | ⟨j1, _⟩
      · have hm1 : m = N - (s + 1) := by omega
        have hs1 : s + 1 ≤ N := by omega
        have hz1 : z + 1 = ((s + 1 : Nat) : Int) := by omega
        rintro g9 e9 hT9
        have F9 : vx_fr (fun a k => a = 21 ∧ k = 9) g g9 := vx_fr_sJ vx_fr_refl e9 ⟨rfl, rfl⟩
        have X9 := vm_px_fr Xg F9 (fun a k q => by omega)
        have h99 : vx_J g9 21 9 = s := by rw [e9, vx_J_eq (by omega)]; exact hz
        refine vx_CV_mono (vc_106 (d := d + 8) (N := N) PG (by omega) V opi X9.2.2.2.1 c200 X9.2.2.1 h99 X9.2.1 hT9 (vm_M_fr M F9 (fun a k q => by omega)) (fun i hi => (vx_fr_J F9 (by omega)).trans (Id i hi)) hc ((vx_fr_J F9 (by omega)).trans j0)) ?_
        rintro g10 ⟨F10, q10⟩ hT10
        have X10 := vm_px_fr X9 F10 (fun a k q => by omega)
        have h109 : vx_J g10 21 9 = s := (vx_fr_J F10 (by omega)).trans h99
        have FF : vx_fr vm_Wm h g10 := vx_fr_trans F (vx_fr_trans (vx_fr_mono F9 (fun a k q => by omega)) (vx_fr_mono F10 (fun a k q => by omega)))
        refine vm_51 (d := d) (h := g10) (N := N) (v2 := z) PG (by omega) X10 h109 (fun g' v3 v4 v5 hT' F' I' => ?_) 203 0 g10 (-1) 1 v5 rfl (by omega) rfl (by decide) hT10 vx_fr_refl h109 ?_
        · refine ih (s + 1) g' (z + 1) v3 v4 v5 hm1 hs1 hz1 hT' (vx_fr_trans FF F') ?_
          rcases I' with ⟨j', cnt', rr', cm', M', Id', hc', V', LG'⟩ | I'
          · refine Or.inl ⟨j', cnt', rr', cm', M', Id', hc', V', fun s' hs' => ?_⟩
            by_cases e : s' = s
            · rw [e]; exact LG'
            · exact LG s' (by omega)
          · exact Or.inr I'
        · rcases q10 with ⟨j10, cnt', rr', cm', M', Id', hc', V'⟩ | q10
          · exact Or.inl ⟨j10, cnt', rr', cm', M', Id', hc', V', fun t => absurd t (by decide), Or.inl ⟨by omega, by omega⟩⟩
          · exact Or.inr q10
      · exact absurd jq j1
theorem vc_105 (PG : vm_pg S st) (c200 : S.2.2.2.2.1 ≤ 200) (hN : N ≤ 17) (opi : vx_o 1 625 5 pi) (hT : vx_T 1 625 h) (x1 : vu_cg h pi S.1 S.2.2.1 S.2.2.2.1) (x2 : vs_cs h pi st) (x4 : vr_P (pi + 6) 5 S.2.2.2.2.1 S.2.2.2.2.2 h) (x5 : vx_J h pi 8 = N) (x6 : vx_J h 34 0 = (5 : Nat)) (x7 : vx_J h 23 0 = (5 : Nat)) : vx_CI (d + 12) 105 [.ref 21, .ref pi] h (vm_mP S st N h) := by
  refine vg_105 opi hT (fun g1 e1 hT1 => ?_)
  have F1 : vx_fr (fun a k => a = 21 ∧ k = 6) h g1 := vx_fr_sR vx_fr_refl e1 ⟨rfl, rfl⟩
  refine vx_CV_mono (vc_131 (d := d + 9) (rr := fun _ _ => 0) (cm := fun _ => 0) hT1 ((vx_fr_J F1 (by omega)).trans x7)) ?_
  rintro g2 ⟨F2, M2⟩ hT2 g3 e3 hT3
  have F3 : vx_fr (fun a k => a = 21 ∧ k = 12) g2 g3 := vx_fr_sJ vx_fr_refl e3 ⟨rfl, rfl⟩
  have ppo := (vx_po opi).2.2.2.2.2.2
  have fK := vu_fK opi
  have FF : vx_fr (fun a k => (a = 21 ∧ (k = 6 ∨ k = 12)) ∨ (a = 23 ∧ k = 4) ∨ (24 ≤ a ∧ a ≤ 30)) h g3 := vx_fr_trans (vx_fr_mono F1 (fun a k q => by omega)) (vx_fr_trans (vx_fr_mono F2 (fun a k q => by omega)) (vx_fr_mono F3 (fun a k q => by omega)))
  have r6 : ve_R g3 21 6 = some pi := by
    rw [vx_fr_R F3 (by omega), vx_fr_R F2 (by omega), e1, ve_R_sR, if_pos ⟨rfl, rfl⟩]
  have X3 : vm_px g3 pi S st N := ⟨vu_cg_fr x1 FF ⟨⟨by omega, by omega⟩, fun k => ⟨by omega, by omega⟩, fun a k _ _ => by omega⟩, fun p hp => (vx_fr_J FF (by omega)).trans (x2 p hp), r6, vr_P_fr x4 fK.1 FF (fun b k q t => by have := fK.2; omega), (vx_fr_J FF (by omega)).trans x5, (vx_fr_J FF (by omega)).trans x6⟩
  refine vm_19 (d := d) (h := g3) (N := N) PG c200 hN (vx_fr_mono FF (fun a k q => by omega)) X3 N 0 g3 0 none none none (by omega) (by omega) rfl hT3 vx_fr_refl (Or.inl ⟨by rw [e3, vx_J_eq (by decide)], 0, fun _ _ => 0, fun _ => 0, vm_M_fr M2 F3 (fun a k q => by omega), fun i hi => absurd hi (by omega), by omega, ⟨fun f => ⟨fun q => absurd q (fun t => t), fun ⟨i, i1, _⟩ => absurd i1 (by omega)⟩, fun i hi => absurd hi (by omega), fun i hi => absurd hi (by omega)⟩, fun s' hs' => absurd hs' (by omega)⟩)
end
