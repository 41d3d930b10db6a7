/-! The rows of a rule with a total: the class -/
section
variable {d o pi r : Nat} {S : vu_S} {R : vu_R} {st : Nat → Nat} {s c0 N : Nat} {r0 : Nat → Nat → Int} {m0 : Nat → Int} {h h1 : ve_H}
abbrev vm_Wc (a k : Nat) : Prop := vm_Wa a k ∨ a = 32
theorem vm_tots {l : List (Nat → Int)} {gc : Nat} {gr : Nat → Nat → Int} {am : Nat → Int} {cntS : Nat} {rrS : Nat → Nat → Int} (P : vm_pg S st) (hr : r < S.2.2.1) (eR : S.2.2.2.1 r = R) (hst : st R.1.toNat = s) (hO : R.2.2.1.1 ≠ -1) (hsN : s < N) (lg : vm_lg R (vm_mt S st s 0) l) (hc : gc ≤ 200) (G : ∀ g, g < gc → vz_va (am g) ∧ vm_am R.2.2.1.1 (vm_ws R (vm_kt R) l (gr g)) = some (am g) ∧ ∃ u, u ∈ l ∧ vr_eq 5 (gr g) (vm_ky R (vm_kt R) u)) :
    ∀ (m g : Nat) (h' : ve_H) (z : Int) (cnt : Nat) (rr : Nat → Nat → Int) (cm : Nat → Int), m = gc - g → g ≤ gc → z = g → vx_T 1 625 h' → vx_fr vm_Wc h h' → vm_ru h' o R → vx_J h' 21 10 = 1 → vr_P 34 5 gc gr h' → (∀ g, g < gc → vx_K h' 38 g = am g) → vx_J h' 21 12 = 0 → vm_Qr S st s 0 c0 r0 m0 h' cnt rr cm → vm_ke cntS rrS cnt rr → (∀ g', g' < g → ∃ i, i < cnt ∧ vr_eq 5 (rr i) (fun k => if k = vm_kt R + 1 then am g' else gr g' k)) →
    vx_W (d + 3) 117 2 [some (.ref 21), some (.int (vx_i z))] [] h' (vx_RV (fun h1 => vx_fr vm_Wc h h1 ∧ ((vx_J h1 21 12 = 0 ∧ ∃ cnt rr cm, vm_Qr S st s 0 c0 r0 m0 h1 cnt rr cm ∧ vm_ke cntS rrS cnt rr ∧ ∀ g', g' < gc → ∃ i, i < cnt ∧ vr_eq 5 (rr i) (fun k => if k = vm_kt R + 1 then am g' else gr g' k)) ∨ (vx_J h1 21 12 ≠ 0 ∧ vm_en h1 ∧ vm_big S st N)))) := by
  have W := P.1.1 r hr
  rw [eR] at W
  obtain ⟨p, m, p1, p2, _, _, m4, _, ov⟩ := W.2.2.2.2.2.2.1
  have p16 : p < 16 := by have := P.2.2.2.1; omega
  have hst' : (st p : Int) = s := by rw [p1, show ((p : Nat) : Int).toNat = p by omega] at hst; omega
  obtain ⟨o69, kt, okt, kt1, _⟩ : (6 ≤ R.2.2.1.1 ∧ R.2.2.1.1 ≤ 9) ∧ ∃ k : Nat, R.2.2.1.2.1 = k ∧ k < m ∧ ∃ v, vz_v (R.2.1 k) v := by
    rcases ov with t | t
    · exact absurd t hO
    · exact t
  have ekt : vm_kt R = kt := by unfold vm_kt; omega
  have kk := vm_K34
  intro n
  induction n with
  | zero =>
    intro g h' z cnt rr cm hm hg hz hT F Q h10 Pg Ka j0 Qr ke don
    have c34 : vx_J h' 34 4 = gc := Pg.2.1
    refine vg_117_2 hT ⟨by omega, fun _ => ⟨F, Or.inl ⟨j0, cnt, rr, cm, Qr, ke, fun g' hg' => don g' (by omega)⟩⟩, fun q => absurd q (by omega)⟩
  | succ n ih =>
    intro g h' z cnt rr cm hm hg hz hT F Q h10 Pg Ka j0 Qr ke don
    have c34 : vx_J h' 34 4 = gc := Pg.2.1
    have gg : g < gc := by omega
    obtain ⟨a1, a2, u, u1, u2⟩ := G g gg
    refine vg_117_2 hT ⟨by omega, fun q => absurd q (by omega), fun _ => ⟨fun q => absurd j0 q, fun _ => ⟨by omega, ?_⟩⟩⟩
    rintro h4 e4 hT4
    rw [show (z * 5).toNat = g * 5 by omega] at e4
    have F4 : vx_fr (fun a _ => a = 32) h' h4 := vx_fr_cp vx_fr_refl e4 (fun k _ _ => rfl)
    have Q4 := vm_ru_fr Q F4 (fun a k q => by omega)
    have k4 : ∀ k, k < 5 → vx_K h4 32 k = gr g k := fun k hk => by
      rw [e4, vx_K_cp, if_pos (by omega)]
      have := Pg.2.2.2.1 g k gg hk
      rw [kk.2.1] at this
      rw [← this]
      congr 1
    have e3 : vx_J h4 o 3 = kt := (Q4.2.2.2.1.2 (by omega)).1.trans okt
    refine ⟨o, Q4.1.1, Q4.1.2.1, by omega, by omega, ?_⟩
    rw [e3, show ((kt : Int) + 1).toNat = kt + 1 by omega, show z.toNat = g by omega, vx_fr_K F4 (show ¬ (38 : Nat) = 32 by decide), Ka g gg]
    rintro h9 e9 hT9
    have F9 : vx_fr (fun a _ => a = 32) h' h9 := vx_fr_sK F4 e9 rfl
    obtain ⟨f, ef⟩ : ∃ f : Nat → Int, f = fun k => if k = vm_kt R + 1 then am g else gr g k := ⟨_, rfl⟩
    have k9 : ∀ k, k < 5 → vx_K h9 32 k = f k := fun k hk => by
      rw [e9, ef, ekt]
      by_cases q : k = kt + 1
      · rw [q, vx_K_eq (vz_va_l a1).1]
        show _ = if kt + 1 = kt + 1 then am g else gr g (kt + 1)
        rw [if_pos rfl]
      · rw [vx_K_ne (by omega)]
        show _ = if k = kt + 1 then am g else gr g k
        rw [if_neg q]; exact k4 k hk
    have gv := vm_gl_vr (u := u) p1 p16 W.2.2.2.2.1 W.2.2.2.2.2.1 (lg.1 u u1).2
    have ftr : vr_eq 5 f (vm_tr R u (am g)) := fun k hk => by
      rw [ef]
      unfold vm_tr
      show (if k = vm_kt R + 1 then am g else gr g k) = _
      by_cases q : k = vm_kt R + 1
      · rw [if_pos q, if_pos q]
      · rw [if_neg q, if_neg q]; exact u2 k hk
    have f0 : f 0 = p := by
      rw [ef]
      show (if 0 = vm_kt R + 1 then am g else gr g 0) = _
      rw [if_neg (by omega), u2 0 (by omega), vm_ky_n (by omega)]
      exact gv.2
    have fvr : vm_vr f := by
      refine ⟨⟨p, f0, p16⟩, fun k hk => ?_⟩
      rw [ef]
      show vz_va (if k + 1 = vm_kt R + 1 then am g else gr g (k + 1))
      by_cases q : k + 1 = vm_kt R + 1
      · rw [if_pos q]; exact a1
      · rw [if_neg q, u2 (k + 1) (by omega), vm_ky_n q]; exact gv.1.2 k hk
    have fmt : vm_mt S st s 1 f := Or.inr ⟨r, hr, by rw [eR]; exact hst, by rw [eR]; exact Or.inr ⟨hO, rfl, l, lg, u, u1, am g, by rw [← vm_ws_congr u2]; exact a2, ftr⟩⟩
    obtain ⟨q1, q2, q3, q4, q5⟩ := Qr
    refine vx_CV_mono (vm_addA (d := d) (f := f) hT9 (vm_M_fr q1 F9 (fun a k q => by omega)) (fun i hi => (vx_fr_J F9 (by omega)).trans (q2 i hi)) q3 q4 k9 f0 p16 hst' fvr ((vx_fr_J F9 (by omega)).trans h10)) ?_
    rintro h10' ⟨F10, K10, cnt1, rr1, cm1, M1, I1, B1, j1, b1, b2, b3⟩ hT10
    have FF : vx_fr vm_Wc h' h10' := vx_fr_trans (vx_fr_mono F9 (fun a k q => Or.inr q)) (vx_fr_mono F10 (fun a k q => Or.inl q))
    have mt1 : ∀ i, i < cnt1 → vm_mt S st s (0 + 1) (rr1 i) := fun i hi => by
      rcases b1 i hi with ⟨j, t1, t2⟩ | t
      · exact vm_rd_cg vm_ba_cg _ _ _ (vr_eq_symm t2) (q5 j t1)
      · exact vm_rd_cg vm_ba_cg _ _ _ (vr_eq_symm t) fmt
    rcases j1 with ⟨j1, c1⟩ | ⟨j1, c1⟩
    · refine ih (g + 1) h10' (z + 1) cnt1 rr1 cm1 (by omega) (by omega) (by omega) hT10 (vx_fr_trans F FF) (vm_ru_fr Q FF (fun a k q => by omega)) ((vx_fr_J FF (by omega)).trans h10) (vr_P_fr Pg kk.1 FF (fun b k q t => by have := kk.2; omega)) (fun g hg => (vx_fr_K FF (by omega)).trans (Ka g hg)) j1 ⟨M1, I1, c1, B1, mt1⟩ (fun i hi => ?_) (fun g' hg' => ?_)
      · obtain ⟨j, t1, t2⟩ := ke i hi
        obtain ⟨j', t3, t4⟩ := b2 j t1
        exact ⟨j', t3, vr_eq_trans t4 t2⟩
      · by_cases q : g' = g
        · rw [q]
          obtain ⟨j, t1, t2⟩ := b3
          exact ⟨j, t1, by rw [← ef]; exact t2⟩
        · obtain ⟨j, t1, t2⟩ := don g' (by omega)
          obtain ⟨j', t3, t4⟩ := b2 j t1
          exact ⟨j', t3, vr_eq_trans t4 t2⟩
    · subst c1
      have c34' : vx_J h10' 34 4 = gc := (vx_fr_J FF (by omega)).trans c34
      have fin : vx_fr vm_Wc h h10' ∧ ((vx_J h10' 21 12 = 0 ∧ ∃ cnt rr cm, vm_Qr S st s 0 c0 r0 m0 h10' cnt rr cm ∧ vm_ke cntS rrS cnt rr ∧ ∀ g', g' < gc → ∃ i, i < cnt ∧ vr_eq 5 (rr i) (fun k => if k = vm_kt R + 1 then am g' else gr g' k)) ∨ (vx_J h10' 21 12 ≠ 0 ∧ vm_en h10' ∧ vm_big S st N)) := ⟨vx_fr_trans F FF, Or.inr ⟨j1, ⟨201, rr1, cm1, M1, I1⟩, Or.inl ⟨s, 0 + 1, rr1, hsN, mt1, M1.1.2.2.2.2.2⟩⟩⟩
      exact vg_117_2 hT10 ⟨by omega, fun _ => fin, fun _ => ⟨fun _ => fin, fun q => absurd q j1⟩⟩
/-- addTotals behind a search that was full -/
theorem vm_tots_full (hT : vx_T 1 625 h) (j1 : vx_J h 21 12 ≠ 0) (c : vx_J h 34 4 = 201) {Q : ve_H → Prop} (q : Q h) : vx_CV (d + 3) 117 [.ref 21] h Q :=
  vg_117 hT (vg_117_2 hT ⟨by decide, fun t => absurd t (by omega), fun _ => ⟨fun _ => q, fun t => absurd t j1⟩⟩)
end
