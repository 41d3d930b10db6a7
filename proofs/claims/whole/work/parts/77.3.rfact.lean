/-! Facts that are read alone: the reference, all together -/
def vu_fO (how : Int) (sd : Nat) (Pd : vy_V) (cnt : Nat) (rr : Nat → Nat → Int) (R : vy_F ⊕ (vy_F × Int × (Nat → Int))) (h : ve_H) (r : Int) (h1 : ve_H) : Prop := match R with
  | .inl F => (r = 0 ∧ vx_J h1 625 0 = 1 ∧ F.1 ≠ 0 ∧ vy_rf h1 F) ∧ vu_rN h1 sd Pd cnt rr ∧ vx_J h1 625 31 = vx_J h 625 31 ∧ vx_J h1 625 32 = vx_J h 625 32
  | .inr f => vy_rf h1 f.1 ∧ f.1.1 = 0 ∧
    (((((∃ j, j < cnt ∧ vr_eq 5 (rr j) (vu_row f.2.1 f.2.2)) ∧ how = 1 ∧ vx_J h1 625 0 = 0) ∨ ((∀ j, j < cnt → ¬ vr_eq 5 (rr j) (vu_row f.2.1 f.2.2)) ∧ ((how = 0 ∧ vx_J h1 625 0 = 0) ∨ (how = 1 ∧ cnt = 200 ∧ vx_J h1 625 0 = 2)))) ∧ r = 0 ∧ vu_rN h1 sd Pd cnt rr ∧ vx_J h1 625 31 = vx_J h 625 31 ∧ vx_J h1 625 32 = vx_J h 625 32)
    ∨ ((r = 1 ∧ vx_J h1 625 0 = 0 ∧ vx_J h1 625 31 = 0 ∧ vx_J h1 625 32 = 0) ∧ ((∃ j, j < cnt ∧ vr_eq 5 (rr j) (vu_row f.2.1 f.2.2) ∧ how = 0 ∧ vu_rN h1 sd Pd (cnt - 1) (vu_sh rr j)) ∨ ((∀ j, j < cnt → ¬ vr_eq 5 (rr j) (vu_row f.2.1 f.2.2)) ∧ how = 1 ∧ cnt < 200 ∧ vu_rN h1 sd Pd (cnt + 1) (vr_ad rr cnt (vu_row f.2.1 f.2.2))))))
section
variable {d i n m sd cnt : Nat} {h h1 g : ve_H} {ts : vy_T} {V Pd : vy_V} {O : vy_O} {F : vy_F} {c : Nat → Int} {rr : Nat → Nat → Int} {x : Int}
/-- a fact that was read comes or goes -/
theorem vc_63_128 {f : vy_F × Int × (Nat → Int)} {v2 : Int} {p : Nat} (hT : vx_T 625 672 g) (hsd : sd < 2) (hx : x = 0 ∨ x = 1) (F0 : vx_fr (vu_SW sd) h g) (c11 : vx_J g 625 11 = sd) (c48 : vx_J g 625 48 = sd) (Rp : vy_rp g sd Pd) (N : vu_rN g sd Pd cnt rr) (j31 : vx_J g 625 31 = vx_J h 625 31) (j32 : vx_J g 625 32 = vx_J h 625 32) (j2 : vx_J g 625 2 = 0) (hf : vy_rf g f.1) (hf0 : f.1.1 = 0) (c50 : vx_J g 625 50 = (m : Nat)) (c57 : vx_J g 625 57 = p) (ep : f.2.1 = p) (hp : p < Pd.1) (hm : Pd.2.2 p = m) (m4 : m ≤ 4) (hA : ∀ k, k < m → vy_vr (f.2.2 k) (vx_K g 659 k)) (h0 : ∀ k, m ≤ k → f.2.2 k = 0) :
    vx_W (d + 1) 63 128 [some (.ref 625), some (.int (vx_i x)), some (.int (vx_i v2)), none, none, none] [] g (vx_RI (fun r h1 => vx_fr (vu_SW sd) h h1 ∧ vx_J h1 625 2 = 0 ∧ vy_rp h1 sd Pd ∧ vu_fO x sd Pd cnt rr (.inr f) h r h1)) := by
  have c200 := N.2.1
  have hxr : vx_rI x := by rcases hx with rfl | rfl <;> decide
  have SM : ∀ j, j < cnt → (vu_sm g (400 * sd + j) m ↔ vr_eq 5 (rr j) (vu_row f.2.1 f.2.2)) := fun j hj => by
    rw [ep]; exact vu_sm_iff (N.2.2.1 j hj) hp hm c57 hA h0 m4
  have E0 : ∀ g1 : ve_H, ∀ z : Int, vx_rI z → g1 = vx_sJ g 625 0 z → vx_fr (vu_SW sd) h g1 ∧ vx_J g1 625 2 = 0 ∧ vy_rp g1 sd Pd ∧ vy_rf g1 f.1 ∧ vx_J g1 625 0 = z ∧ vu_rN g1 sd Pd cnt rr ∧ vx_J g1 625 31 = vx_J h 625 31 ∧ vx_J g1 625 32 = vx_J h 625 32 ∧ vx_J g1 625 11 = sd ∧ vx_J g1 625 48 = sd ∧ vx_J g1 625 50 = (m : Nat) ∧ vx_J g1 625 57 = p ∧ ∀ k, k < m → vy_vr (f.2.2 k) (vx_K g1 659 k) := by
    intro g1 z hz e
    have f1 : vx_fr (fun a k => a = 625 ∧ k = 0) g g1 := vx_fr_sJ vx_fr_refl e ⟨rfl, rfl⟩
    refine ⟨vx_fr_trans F0 (vx_fr_mono f1 (fun a k q => vu_SW_5 (by omega))), (vx_fr_J f1 (by simp)).trans j2, vy_rp_fr Rp f1 (by simp), ⟨(vx_fr_J f1 (by simp)).trans hf.1, (vx_fr_J f1 (by simp)).trans hf.2⟩, by rw [e, vx_J_eq hz], vu_rN_fr N f1 (fun k => by simp), (vx_fr_J f1 (by simp)).trans j31, (vx_fr_J f1 (by simp)).trans j32, (vx_fr_J f1 (by simp)).trans c11, (vx_fr_J f1 (by simp)).trans c48, (vx_fr_J f1 (by simp)).trans c50, (vx_fr_J f1 (by simp)).trans c57, fun k hk => ?_⟩
    rw [vx_fr_K f1 (by simp)]; exact hA k hk
  refine vg_63_128 hT ⟨fun _ => vx_CI_mono (vc_53 hT hsd m4 (show cnt ≤ 400 by omega) c48 c50 N.1) ?_, fun q => absurd (hf.1.trans hf0) q⟩
  rintro r2 h2 _ ⟨rfl, p2⟩ T2
  rw [c11, Int.toNat_natCast, N.1]
  have END : ∀ (g4 : ve_H) (v3 : Int) (v4 v5 : Option Value), vx_T 625 672 g4 → vx_fr (vu_SW sd) h g4 → vx_J g4 625 2 = 0 → vy_rp g4 sd Pd → vy_rf g4 f.1 → vx_J g4 625 0 = 0 → (∀ g5, vx_fr (fun a k => a = 625 ∧ (k = 31 ∨ k = 32)) g4 g5 → ((∃ j, j < cnt ∧ vr_eq 5 (rr j) (vu_row f.2.1 f.2.2) ∧ x = 0 ∧ vu_rN g5 sd Pd (cnt - 1) (vu_sh rr j)) ∨ ((∀ j, j < cnt → ¬ vr_eq 5 (rr j) (vu_row f.2.1 f.2.2)) ∧ x = 1 ∧ cnt < 200 ∧ vu_rN g5 sd Pd (cnt + 1) (vr_ad rr cnt (vu_row f.2.1 f.2.2))))) → vx_W (d + 1) 63 322 [some (.ref 625), some (.int (vx_i x)), some (.int (vx_i v2)), some (.int (vx_i v3)), v4, v5] [] g4 (vx_RI (fun r h1 => vx_fr (vu_SW sd) h h1 ∧ vx_J h1 625 2 = 0 ∧ vy_rp h1 sd Pd ∧ vu_fO x sd Pd cnt rr (.inr f) h r h1)) := by
    intro g4 v3 v4 v5 T4 F4 k2 k3 k4 k5 K
    refine vg_63_322 T4 (fun h5 e5 T5 h6 e6 T6 => ?_)
    have f6 : vx_fr (fun a k => a = 625 ∧ (k = 31 ∨ k = 32)) g4 h6 := vx_fr_sJ (vx_fr_sJ vx_fr_refl e5 (by omega)) e6 (by omega)
    refine ⟨vx_fr_trans F4 (vx_fr_mono f6 (fun a k q => vu_SW_5 (by omega))), (vx_fr_J f6 (by simp)).trans k2, vy_rp_fr k3 f6 (by simp), ⟨(vx_fr_J f6 (by simp)).trans k4.1, (vx_fr_J f6 (by simp)).trans k4.2⟩, hf0, Or.inr ⟨⟨rfl, (vx_fr_J f6 (by simp)).trans k5, ?_, ?_⟩, K h6 f6⟩⟩
    · rw [e6, vx_J_ne (by omega), e5, vx_J_eq (by decide)]
    · rw [e6, vx_J_eq (by decide)]
  refine ⟨hxr, fun q1 h5 e5 T5 => ?_, fun q1 => ⟨fun q2 h8 e8 T8 => ?_, fun q2 => ⟨by omega, fun q3 h11 e11 T11 => ?_, fun q3 h12 e12 T12 => ?_⟩⟩⟩
  · obtain ⟨a1, a2, a3, a4, a5, a6, a7, a8, a9, a10, a11, a12, a13⟩ := E0 h5 0 (by decide) e5
    have x0 : x = 0 := hx.resolve_right q1
    refine ⟨fun q2 => ⟨a1, a2, a3, a4, hf0, Or.inl ⟨Or.inr ⟨fun j hj t => ?_, Or.inl ⟨x0, a5⟩⟩, rfl, a6, a7, a8⟩⟩, fun q2 => ?_⟩
    · rcases p2 with ⟨-, p2⟩ | ⟨j', u1, u2, -⟩
      · exact p2 j hj ((SM j hj).mpr t)
      · omega
    · rcases p2 with ⟨p2, -⟩ | ⟨j', u1, u2, u3, -⟩
      · exact absurd p2 q2
      · refine vg_63_208 T5 ⟨hxr, fun _ => ?_, fun t => absurd t q1⟩
        rw [a9, Int.toNat_natCast, a6.1]
        refine ⟨by omega, by omega, fun h7 e7 T7 => ?_⟩
        have f7 : vx_fr (fun a k => a = 647 ∧ k = sd) h5 h7 := vx_fr_sJ vx_fr_refl e7 ⟨rfl, rfl⟩
        obtain ⟨cn, ecn⟩ : ∃ cn, cnt = cn + 1 := ⟨cnt - 1, by omega⟩
        refine vc_63_236 (h := h7) (cnt := cn) (f := j') hsd ((vx_fr_J f7 (by simp)).trans a9) (by omega) (by omega) (fun j hj => vu_rf_fr (a6.2.2.1 j (by omega)) f7 ⟨by simp, fun k _ _ => by simp⟩) (by rw [e7, vx_J_eq (by omega)]; omega) (fun g4 v4 v5 T4 f4 A4 => ?_) (cn - j') j' h7 r2 none rfl (Nat.le_refl _) (by omega) u2 T7 vx_fr_refl (fun j hj => ?_) (fun j h1 h2 => vu_rf_fr (a6.2.2.1 j (by omega)) f7 ⟨by simp, fun k _ _ => by simp⟩)
        · refine END g4 _ _ _ T4 (vx_fr_trans a1 (vx_fr_trans (vx_fr_mono f7 (fun a k q => ?_)) (vx_fr_mono f4 (fun a k q => ?_)))) ((vx_fr_J f4 (by simp)).trans ((vx_fr_J f7 (by simp)).trans a2)) (vy_rp_fr (vy_rp_fr a3 f7 (by simp)) f4 (by simp)) ⟨(vx_fr_J f4 (by simp)).trans ((vx_fr_J f7 (by simp)).trans a4.1), (vx_fr_J f4 (by simp)).trans ((vx_fr_J f7 (by simp)).trans a4.2)⟩ ((vx_fr_J f4 (by simp)).trans ((vx_fr_J f7 (by simp)).trans a5)) (fun g5 f5 => Or.inl ⟨j', u1, (SM j' u1).mp u3, x0, ?_⟩)
          · obtain ⟨rfl, q⟩ := q; simp [vu_SW]; omega
          · rcases q with ⟨rfl, q⟩ | ⟨rfl, q⟩
            · simp [vu_SW]; omega
            · simp [vu_SW]; omega
          · refine ⟨(vx_fr_J f5 (by simp)).trans ((vx_fr_J f4 (by simp)).trans ?_), by omega, fun j hj => vu_rf_fr (A4 j (by omega)) f5 ⟨by simp, fun k _ _ => by simp⟩, fun a b ha hb e => ?_⟩
            · rw [e7, vx_J_eq (by omega)]; omega
            · unfold vu_sh at e
              by_cases t1 : a < j' <;> by_cases t2 : b < j'
              · rw [if_pos t1, if_pos t2] at e; exact N.2.2.2 a b (by omega) (by omega) e
              · rw [if_pos t1, if_neg t2] at e; have := N.2.2.2 a (b + 1) (by omega) (by omega) e; omega
              · rw [if_neg t1, if_pos t2] at e; have := N.2.2.2 (a + 1) b (by omega) (by omega) e; omega
              · rw [if_neg t1, if_neg t2] at e; have := N.2.2.2 (a + 1) (b + 1) (by omega) (by omega) e; omega
        · have es : vu_sh rr j' j = rr j := if_pos hj
          rw [es]
          exact vu_rf_fr (a6.2.2.1 j (by omega)) f7 ⟨by simp, fun k _ _ => by simp⟩
  · obtain ⟨a1, a2, a3, a4, a5, a6, a7, a8, a9, a10, a11, a12, a13⟩ := E0 h8 0 (by decide) e8
    refine ⟨a1, a2, a3, a4, hf0, Or.inl ⟨Or.inl ⟨?_, q1, a5⟩, rfl, a6, a7, a8⟩⟩
    rcases p2 with ⟨p2, -⟩ | ⟨j', u1, u2, u3, -⟩
    · exact absurd p2 q2
    · exact ⟨j', u1, (SM j' u1).mp u3⟩
  · have no : ∀ j, j < cnt → ¬ vr_eq 5 (rr j) (vu_row f.2.1 f.2.2) := fun j hj t => by
      rcases p2 with ⟨-, p2⟩ | ⟨j', u1, u2, -⟩
      · exact p2 j hj ((SM j hj).mpr t)
      · omega
    obtain ⟨a1, a2, a3, a4, a5, a6, a7, a8, a9, a10, a11, a12, a13⟩ := E0 h11 0 (by decide) e11
    refine vg_63_208 T11 ⟨hxr, fun t => absurd q1 t, fun _ => vx_CV_mono (vc_54 T11 hsd m4 (show cnt < 400 by omega) a10 a11 a6.1) ?_⟩
    rintro h6 ⟨f6, b1, b2, b3⟩ T6
    refine END h6 _ _ _ T6 (vx_fr_trans a1 (vx_fr_mono f6 (fun a k q => vu_SW_a (by omega) q))) ((vx_fr_J f6 (by simp)).trans a2) (vy_rp_fr a3 f6 (by simp)) ⟨(vx_fr_J f6 (by simp)).trans a4.1, (vx_fr_J f6 (by simp)).trans a4.2⟩ ((vx_fr_J f6 (by simp)).trans a5) (fun g5 f5 => Or.inr ⟨no, q1, by omega, (vx_fr_J f5 (by simp)).trans (by rw [b1]; omega), by omega, fun j hj => vu_rf_fr ?_ f5 ⟨by simp, fun k _ _ => by simp⟩, fun a b ha hb e => ?_⟩)
    · show vu_rf h6 (400 * sd + j) Pd (if j = cnt then vu_row f.2.1 f.2.2 else rr j)
      by_cases q : j = cnt
      · rw [if_pos q, q]
        refine ⟨p, m, hp, hm, m4, ep, b2.trans a12, fun k hk => ?_, fun k hk => h0 k hk⟩
        rw [b3 k hk]
        exact a13 k hk
      · rw [if_neg q]
        refine vu_rf_fr (a6.2.2.1 j (by omega)) f6 ⟨?_, fun k g1 g2 => ?_⟩
        · simp [vu_Sa]; omega
        · simp [vu_Sa]; omega
    · have e : vr_eq 5 (if a = cnt then vu_row f.2.1 f.2.2 else rr a) (if b = cnt then vu_row f.2.1 f.2.2 else rr b) := e
      by_cases t1 : a = cnt <;> by_cases t2 : b = cnt
      · omega
      · rw [if_pos t1, if_neg t2] at e; exact absurd (fun k hk => (e k hk).symm) (no b (by omega))
      · rw [if_neg t1, if_pos t2] at e; exact absurd e (no a (by omega))
      · rw [if_neg t1, if_neg t2] at e; exact N.2.2.2 a b (by omega) (by omega) e
  · have no : ∀ j, j < cnt → ¬ vr_eq 5 (rr j) (vu_row f.2.1 f.2.2) := fun j hj t => by
      rcases p2 with ⟨-, p2⟩ | ⟨j', u1, u2, -⟩
      · exact p2 j hj ((SM j hj).mpr t)
      · omega
    obtain ⟨a1, a2, a3, a4, a5, a6, a7, a8, a9, a10, a11, a12, a13⟩ := E0 h12 2 (by decide) e12
    exact ⟨a1, a2, a3, a4, hf0, Or.inl ⟨Or.inr ⟨no, Or.inr ⟨q1, by omega, a5⟩⟩, rfl, a6, a7, a8⟩⟩
end
