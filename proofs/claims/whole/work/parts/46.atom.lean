/-! Reading an atom: the class -/
section
variable {d i o : Nat} {h : ve_H} {ts : vy_T} {V : vy_V} {O : vy_O} {x y : Int}
abbrev vy_R5 : Type := Int ⊕ (Nat × vy_V × vy_O × (Nat → Int) × Nat)
theorem vy_set_lt {A : Nat → Int} {k j : Nat} {t : Int} (q : j ≠ k) : vy_set A k t j = A j := if_neg q
theorem vy_set_eq {A : Nat → Int} {k : Nat} {t : Int} : vy_set A k t k = t := if_pos rfl
theorem vc_157_131 {rl first : Int} {hd any : Bool} {R : vy_R5} {P : Int → ve_H → Prop} {h0 : ve_H} (ok : vy_ok ts) (hr : vx_rI rl) (hhd : hd = true ↔ rl = 16)
    (F : ∀ g p, R = .inl p → vx_fr (vy_Sa o) h0 g → vy_bad p g → P 0 g)
    (G : ∀ g j W Q A m, vx_T 1 625 g → R = .inr (j, W, Q, A, m) → vx_fr (vy_Sa o) h0 g → vy_fx h0 g → vy_cb g ts o j W → vy_co g o Q → (∀ k, k < 4 → vx_K g 17 k = A k) → vx_CV d 158 [.ref 7, .int (vx_i (m : Int)), .int (vx_i first)] g (fun h5 => vx_T 1 625 h5 → vx_CI d 165 [.ref 7, .int (vx_i 41)] h5 (fun r6 h6 => vx_T 1 625 h6 → (r6 = 0 ∨ r6 = 1) ∧ P r6 h6))) (hd1 : 1 ≤ d) :
    ∀ (m i : Nat) (V : vy_V) (O : vy_O) (A : Nat → Int) (g : ve_H) (y z : Int) (v6 : Option Value), m ≤ 4 → y = 4 - (m : Int) → z = y → vx_T 1 625 g → vx_fr (vy_Sa o) h0 g → vy_fx h0 g → vy_cb g ts o i V → vy_co g o O → (∀ k, k < 4 → vx_K g 17 k = A k) → (any = true ↔ (rl = 15 ∨ (rl = 14 ∧ O.1 = -1))) → R = vy_ar ts hd any m i V O A →
    vx_W (d + 1) 157 131 [some (.ref 7), some (.int (vx_i rl)), some (.int (vx_i first)), some (.int (vx_i y)), some (.int (vx_i 1)), some (.int (vx_i z)), v6] [] g (vx_RI P) := by
  obtain ⟨d, rfl⟩ : ∃ e, d = e + 1 := ⟨d - 1, by omega⟩
  intro m
  induction m with
  | zero =>
    intro i V O A g y z v6 hm hy hz hT hf hfx B C hA ha hR
    refine vg_157_131 hT ⟨by omega, fun _ => ⟨by omega, fun q => absurd q (by omega), fun _ => vc_ref hT ok B (fun h1 f1 b1 => ?_)⟩, fun q => absurd q (by omega)⟩
    exact F h1 _ hR (vx_fr_trans hf (vx_fr_mono f1 (by intro a k q; omega))) b1
  | succ m ih =>
    intro i V O A g y z v6 hm hy hz hT hf hfx B C hA ha hR
    have b5 := B.2.2.2.2.1
    have n := vy_on b5
    have hzk : z = ((3 - m : Nat) : Int) := by omega
    -- behind a term
    have NX : ∀ (g2 : ve_H) (q : Int × Nat × vy_V) (Q : vy_O) (v6 : Option Value), vx_T 1 625 g2 → vx_fr (vy_Sa o) h0 g2 → vy_fx h0 g2 → vy_cb g2 ts o q.2.1 q.2.2 → vy_co g2 o Q → (∀ k, k < 4 → vx_K g2 17 k = vy_set A (3 - m) q.1 k) → (any = true ↔ (rl = 15 ∨ (rl = 14 ∧ Q.1 = -1))) → R = (if vy_k ts q.2.1 = 44 then vy_ar ts hd any m (q.2.1 + 1) q.2.2 Q (vy_set A (3 - m) q.1) else .inr (q.2.1, q.2.2, Q, vy_set A (3 - m) q.1, 4 - m)) →
        vx_CI (d + 1) 164 [.ref 7, .int (vx_i 44)] g2 (fun r20 h20 => vx_T 1 625 h20 → vx_W (d + 1 + 1) 157 131 [some (.ref 7), some (.int (vx_i rl)), some (.int (vx_i first)), some (.int (vx_i (y + 1))), some (.int (vx_i r20)), some (.int (vx_i (z + 1))), v6] [] h20 (vx_RI P)) := by
      intro g2 q Q v6 T2 f2 x2 B2 C2 A2 ha2 hR2
      refine vx_CI_mono (vc_164 T2 ok B2 (by omega) (by omega)) ?_
      rintro r20 h20 _ (⟨rfl, q1, e20, B20⟩ | ⟨rfl, q1, rfl⟩) T20
      · rw [if_pos q1] at hR2
        have f20 : vx_fr (fun a k => a = 7 ∧ k = 9) g2 h20 := vx_fr_sJ vx_fr_refl e20 ⟨rfl, rfl⟩
        exact ih (q.2.1 + 1) q.2.2 Q (vy_set A (3 - m) q.1) h20 (y + 1) (z + 1) v6 (by omega) (by omega) (by omega) T20 (vx_fr_trans f2 (vx_fr_mono f20 (by intro a k q; omega))) ⟨(vx_fr_J f20 (by omega)).trans x2.1, (vx_fr_J f20 (by omega)).trans x2.2⟩ B20 (vy_co_fr C2 f20 (by omega)) (fun k hk => (vx_fr_K f20 (by omega)).trans (A2 k hk)) ha2 hR2
      · rw [if_neg q1] at hR2
        have K := G h20 q.2.1 q.2.2 Q (vy_set A (3 - m) q.1) (4 - m) T20 hR2 f2 x2 B2 C2 A2
        rw [show ((4 - m : Nat) : Int) = y + 1 by omega] at K
        refine vg_157_131 T20 ⟨by omega, fun _ => ⟨by omega, fun _ => K, fun q => absurd rfl q⟩, fun _ => ⟨by omega, fun _ => K, fun q => absurd rfl q⟩⟩
    -- a term
    have TM : ∀ (g2 : ve_H) (j : Nat) (W : vy_V) (Q : vy_O) (P2 : Int → ve_H → Prop), vx_T 1 625 g2 → vx_fr (vy_Sa o) h0 g2 → vy_fx h0 g2 → vy_cb g2 ts o j W → vy_co g2 o Q → (∀ k, k < 4 → vx_K g2 17 k = A k) → (any = true ↔ (rl = 15 ∨ (rl = 14 ∧ Q.1 = -1))) →
        (∀ p g3, vx_T 1 625 g3 → vy_tm ts any j W = .inl p → vx_fr (vy_Sa o) h0 g3 → vy_bad p g3 → P2 0 g3) →
        (∀ q g3, vx_T 1 625 g3 → vy_tm ts any j W = .inr q → vx_fr (vy_Sa o) h0 g3 → vy_fx h0 g3 → vy_cb g3 ts o q.2.1 q.2.2 → vy_co g3 o Q → (∀ k, k < 4 → vx_K g3 17 k = vy_set A (3 - m) q.1 k) → P2 1 g3) →
        vx_CI (d + 1) 160 [.ref 7, .int (vx_i z), .int (vx_i rl)] g2 (fun r h1 => vx_T 1 625 h1 → P2 r h1) := by
      intro g2 j W Q P2 T2 f2 x2 B2 C2 A2 ha2 X1 X2
      have b52 := B2.2.2.2.2.1
      refine vx_CI_mono (vc_160 (k0 := 3 - m) (any := any) T2 ok B2 (by omega) hzk hr (by rw [C2.1]; exact ha2)) ?_
      rintro r h1 _ ⟨f1, p1⟩ T1
      have f1' : vx_fr (vy_Sa o) h0 h1 := vx_fr_trans f2 (vx_fr_mono f1 (by intro a k q; omega))
      have C1 := vy_co_fr C2 f1 (by omega)
      cases e : vy_tm ts any j W with
      | inl p =>
        rw [e] at p1
        obtain ⟨rfl, b⟩ := p1
        exact X1 p h1 T1 e f1' b
      | inr q =>
        rw [e] at p1
        obtain ⟨rfl, k1, B1, x1⟩ := p1
        refine X2 q h1 T1 e f1' ⟨x1.1.trans x2.1, x1.2.trans x2.2⟩ B1 C1 (fun k hk => ?_)
        by_cases qk : k = 3 - m
        · rw [qk, vy_set_eq]; exact k1
        · rw [vy_set_lt qk]
          exact (vx_fr_K f1 (by omega)).trans (A2 k hk)
    have PL : ¬ (hd = true ∧ 6 ≤ vy_k ts i ∧ vy_k ts i ≤ 9) → ∀ v6 : Option Value, vx_CI (d + 1) 160 [.ref 7, .int (vx_i z), .int (vx_i rl)] g (fun r18 h18 => vx_T 1 625 h18 → ((r18 = 0 → P 0 h18) ∧ (r18 ≠ 0 → vx_CI (d + 1) 164 [.ref 7, .int (vx_i 44)] h18 (fun r20 h20 => vx_T 1 625 h20 → vx_W (d + 1 + 1) 157 131 [some (.ref 7), some (.int (vx_i rl)), some (.int (vx_i first)), some (.int (vx_i (y + 1))), some (.int (vx_i r20)), some (.int (vx_i (z + 1))), v6] [] h20 (vx_RI P))))) := by
      intro hn v6
      have e0 : R = match vy_tm ts any i V with
        | .inl p => .inl p
        | .inr q => if vy_k ts q.2.1 = 44 then vy_ar ts hd any m (q.2.1 + 1) q.2.2 O (vy_set A (3 - m) q.1) else .inr (q.2.1, q.2.2, O, vy_set A (3 - m) q.1, 4 - m) := by
        rw [hR]
        exact if_neg hn
      refine TM g i V O _ hT hf hfx B C hA ha (fun p g3 T3 e f3 b3 => ⟨fun _ => F g3 p (by rw [e0, e]) f3 b3, fun q => absurd rfl q⟩) (fun q g3 T3 e f3 x3 B3 C3 A3 => ⟨fun q => absurd q (by omega), fun _ => NX g3 q O v6 T3 f3 x3 B3 C3 A3 ha (by rw [e0, e])⟩)
    refine vg_157_131 hT ⟨by omega, fun q => absurd q (by omega), fun _ => ⟨by omega, fun q => absurd q (by omega), fun _ => ⟨hr, fun q16 => PL (fun t => q16 (hhd.mp t.1)) _, fun q16 => vx_CI_mono (vc_162 hT ok B) ?_⟩⟩⟩
    rintro r21 h21 hr21 ⟨rfl, rfl⟩ _
    refine vx_CI_mono (vc_168 hT hr21) ?_
    rintro r22 h22 _ ⟨rfl, hr22⟩ _
    refine ⟨fun q22 => PL (fun t => by omega) _, fun q22 => ?_⟩
    have hk69 : 6 ≤ vy_k ts i ∧ vy_k ts i ≤ 9 := by omega
    have e0 : R = (if O.1 ≠ -1 then .inl (vy_p ts i)
       else if vy_k ts (i + 1) ≠ 40 then .inl (vy_p ts (i + 1))
       else if vy_k ts (i + 2) ≠ 3 then .inl (vy_p ts (i + 2))
       else match vy_tm ts any (i + 2) V with
        | .inl p => .inl p
        | .inr q => if vy_k ts q.2.1 ≠ 41 then .inl (vy_p ts q.2.1)
          else if vy_k ts (q.2.1 + 1) = 44 then vy_ar ts hd any m (q.2.1 + 2) q.2.2 (vy_k ts i, 3 - (m : Int), vy_p ts i) (vy_set A (3 - m) q.1)
          else .inr (q.2.1 + 1, q.2.2, (vy_k ts i, 3 - (m : Int), vy_p ts i), vy_set A (3 - m) q.1, 4 - m)) := by
      rw [hR]
      exact if_pos ⟨hhd.mpr q16, hk69⟩
    refine vx_CI_mono (vc_159 (d := d) (k0 := 3 - m) hT ok B C hzk (by omega) hk69) ?_
    rintro r27 h27 _ ⟨f27, p27⟩ T27
    have F27 := vx_fr_trans hf f27
    rcases p27 with ⟨rfl, c1, b⟩ | ⟨rfl, c1, c2, b⟩ | ⟨rfl, c1, c2, c3, b⟩ | ⟨rfl, c1, c2, c3, B27, C27, k27, x27⟩
    · exact ⟨fun _ => F h27 _ (by rw [e0, if_pos c1]) F27 b, fun q => absurd rfl q⟩
    · exact ⟨fun _ => F h27 _ (by rw [e0, if_neg (fun t => t c1), if_pos c2]) F27 b, fun q => absurd rfl q⟩
    · exact ⟨fun _ => F h27 _ (by rw [e0, if_neg (fun t => t c1), if_neg (fun t => t c2), if_pos c3]) F27 b, fun q => absurd rfl q⟩
    · rw [if_neg (fun t => t c1), if_neg (fun t => t c2), if_neg (fun t => t c3)] at e0
      have ha27 : any = true ↔ (rl = 15 ∨ (rl = 14 ∧ ((vy_k ts i, ((3 - m : Nat) : Int), vy_p ts i) : vy_O).1 = -1)) := by
        constructor
        · intro t; have := ha.mp t; omega
        · intro t; omega
      refine ⟨fun q => absurd q (by omega), fun _ => TM h27 (i + 2) V _ _ T27 F27 ⟨x27.1.trans hfx.1, x27.2.trans hfx.2⟩ B27 C27 (fun k hk => (k27 k).trans (hA k hk)) ha27 (fun p g3 T3 e f3 b3 => ⟨fun _ => F g3 p (by rw [e0, e]) f3 b3, fun q => absurd rfl q⟩) (fun q g3 T3 e f3 x3 B3 C3 A3 => ⟨fun q => absurd q (by omega), fun _ => ?_⟩)⟩
      rw [e] at e0
      have e0 : R = if vy_k ts q.2.1 ≠ 41 then .inl (vy_p ts q.2.1)
          else if vy_k ts (q.2.1 + 1) = 44 then vy_ar ts hd any m (q.2.1 + 2) q.2.2 (vy_k ts i, 3 - (m : Int), vy_p ts i) (vy_set A (3 - m) q.1)
          else .inr (q.2.1 + 1, q.2.2, (vy_k ts i, 3 - (m : Int), vy_p ts i), vy_set A (3 - m) q.1, 4 - m) := e0
      refine vx_CI_mono (vc_165 T3 ok B3 (by omega) (by omega)) ?_
      rintro r31 h31 _ (⟨rfl, q41, e31, B31⟩ | ⟨rfl, q41, f31, b31⟩) T31
      · rw [if_neg (fun t => t q41)] at e0
        have f31 : vx_fr (fun a k => a = 7 ∧ k = 9) g3 h31 := vx_fr_sJ vx_fr_refl e31 ⟨rfl, rfl⟩
        refine ⟨fun _ => NX h31 (q.1, q.2.1 + 1, q.2.2) (vy_k ts i, 3 - (m : Int), vy_p ts i) _ T31 (vx_fr_trans f3 (vx_fr_mono f31 (by intro a k q; omega))) ⟨(vx_fr_J f31 (by omega)).trans x3.1, (vx_fr_J f31 (by omega)).trans x3.2⟩ B31 ?_ (fun k hk => (vx_fr_K f31 (by omega)).trans (A3 k hk)) ?_ e0, fun q => absurd q (by omega)⟩
        · rw [show (3 - (m : Int)) = ((3 - m : Nat) : Int) by omega]
          exact vy_co_fr C3 f31 (by omega)
        · constructor
          · intro t; have := ha.mp t; omega
          · intro t; omega
      · rw [if_pos q41] at e0
        exact ⟨fun q => absurd rfl q, fun _ => F h31 _ e0 (vx_fr_trans f3 (vx_fr_mono f31 (by intro a k q; omega))) b31⟩
end
