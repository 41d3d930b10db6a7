/-! Clauses of the reference: what stays -/
section
variable {d i c sd n m : Nat} {h h1 g : ve_H} {ts : vy_T} {V Pd Pd' : vy_V} {O : vy_O} {F F' : vy_F} {L : vy_L} {op : Bool} {x y : Int} {R : vu_R}
theorem vu_nf {c' : Nat} (hc : c' ≠ c) : (∀ a, (a = 636 ∨ a = 639 ∨ a = 640 ∨ a = 641 ∨ a = 642 ∨ a = 662) → ¬ vu_Sf c sd a c') ∧ (∀ k, 4 * c' ≤ k → k < 4 * c' + 4 → ¬ vu_Sf c sd 637 k ∧ ¬ vu_Sf c sd 638 k) ∧ (∀ l, 6 * c' ≤ l → l < 6 * c' + 6 → ¬ vu_Sf c sd 660 l ∧ ¬ vu_Sf c sd 643 l ∧ ¬ vu_Sf c sd 661 l ∧ ¬ vu_Sf c sd 644 l) ∧ ∀ k, 24 * c' ≤ k → k < 24 * c' + 24 → ¬ vu_Sf c sd 645 k ∧ ¬ vu_Sf c sd 646 k := by
  refine ⟨fun a ha => ?_, fun k h1 h2 => ⟨?_, ?_⟩, fun k h1 h2 => ⟨?_, ?_, ?_, ?_⟩, fun k h1 h2 => ⟨?_, ?_⟩⟩
  · rcases ha with rfl | rfl | rfl | rfl | rfl | rfl <;> (simp [vu_Sf, vy_Sz, vy_Sn, vy_Sq, vu_Sb, vu_Sl]) <;> omega
  all_goals (simp [vu_Sf, vy_Sz, vy_Sn, vy_Sq, vu_Sb, vu_Sl]) <;> omega
theorem vu_nF {k : Nat} : (¬ vu_Sf c sd 647 k ∧ ¬ vu_Sf c sd 648 k ∧ ¬ vu_Sf c sd 649 k) ∧ (¬ vu_Sf c sd 627 k ∧ ¬ vu_Sf c sd 628 k ∧ ¬ vu_Sf c sd 629 k ∧ ¬ vu_Sf c sd 630 k) ∧ ¬ vu_Sf c sd 625 48 ∧ ¬ vu_Sf c sd 625 49 ∧ ¬ vu_Sf c sd 635 k := by
  simp [vu_Sf, vy_Sz, vy_Sn, vy_Sq, vu_Sb, vu_Sl]
theorem vu_keepR {RR : Nat → vu_R} {cnt : Nat} {rr : Nat → Nat → Int} (hsd : sd < 2) (hc : c = if n = 30 then 60 else 30 * sd + n) (f : vx_fr (vu_Sf c sd) h h1) (S : vu_rS h ts sd i Pd F n RR cnt rr) (M : vu_mo Pd F Pd' F') : vt_kr h1 0 ts ∧ vx_J h1 625 48 = sd ∧ vx_J h1 625 49 = 1 ∧ vx_J h1 635 sd = n ∧ (∀ r, r < n → vu_rr h1 (30 * sd + r) Pd' F' (RR r)) ∧ vu_rF h1 sd i Pd' F' cnt rr := by
  obtain ⟨K, h10, hi, h48, h49, hp, hF, F1, h635, hn, hR, c0, e0, l0, rF⟩ := S
  refine ⟨vy_kr_fr K f (fun k => (vu_nF (k := k)).2.1), (vx_fr_J f (vu_nF (k := 0)).2.2.1).trans h48, (vx_fr_J f (vu_nF (k := 0)).2.2.2.1).trans h49, (vx_fr_J f vu_nF.2.2.2.2).trans h635, fun r hr => ?_, c0, (vx_fr_J f vu_nF.1.1).trans e0, l0, fun t => ?_⟩
  · have N := vu_nf (c := c) (sd := sd) (c' := 30 * sd + r) (by split at hc <;> omega)
    exact vu_rr_mono (vu_rr_fr (hR r hr) f N.1 N.2.1 N.2.2.1 N.2.2.2) M
  · obtain ⟨e1, q⟩ := rF (M.1 t)
    exact ⟨e1, fun j hj => vu_rf_mono (vu_rf_fr (q j hj) f ⟨vu_nF.1.2.1, fun k _ _ => vu_nF.1.2.2⟩) M.2⟩
theorem vu_Sk_f (hsd : sd < 2) (hc : (30 * sd ≤ c ∧ c < 30 * sd + 30) ∨ c = 60) {a k : Nat} (q : vu_Sf c sd a k) : vu_Sk sd a k := by
  rcases q with ((((q | q | q | q | q | q) | q | q | q) | q | q | q | q)) | (q | q) | (q | q) | q
  · obtain ⟨rfl, q⟩ := q; left; omega
  · obtain ⟨rfl, q⟩ := q; simp [vu_Sk]; omega
  · subst q; simp [vu_Sk]
  · subst q; simp [vu_Sk]
  · subst q; simp [vu_Sk]
  · subst q; simp [vu_Sk]
  · obtain ⟨rfl, q⟩ := q; left; omega
  · obtain ⟨rfl, q⟩ := q; simp [vu_Sk]; omega
  · obtain ⟨rfl | rfl, q⟩ := q <;> (simp [vu_Sk]; omega)
  · obtain ⟨rfl, q⟩ := q; left; omega
  · obtain ⟨rfl, q⟩ := q; simp [vu_Sk]; omega
  · obtain ⟨rfl | rfl | rfl | rfl, q⟩ := q <;> (simp [vu_Sk]; omega)
  · obtain ⟨rfl | rfl, q⟩ := q <;> (simp [vu_Sk]; omega)
  · obtain ⟨rfl, q⟩ := q; left; omega
  · obtain ⟨rfl | rfl | rfl, q⟩ := q <;> (simp [vu_Sk]; omega)
  · obtain ⟨rfl | rfl | rfl | rfl, q⟩ := q <;> (simp [vu_Sk]; omega)
  · obtain ⟨rfl | rfl, q⟩ := q <;> (simp [vu_Sk]; omega)
  · subst q; simp [vu_Sk]
theorem vu_Sk_a {cnt : Nat} (hc : cnt < 400) {a k : Nat} (q : vu_Sa sd (400 * sd + cnt) a k) : vu_Sk sd a k := by
  rcases q with q | q | q
  · obtain ⟨rfl, q⟩ := q; simp [vu_Sk]; omega
  · obtain ⟨rfl, q⟩ := q; simp [vu_Sk]; omega
  · obtain ⟨rfl, q⟩ := q; simp [vu_Sk]; omega
theorem vu_Sk_635 {a k : Nat} (q : a = 635 ∧ k = sd) : vu_Sk sd a k := by
  obtain ⟨rfl, q⟩ := q; simp [vu_Sk]; omega
theorem vy_tr_val {t kd v : Int} (R : vy_tr t kd v) (h1 : ∀ i, ¬ vz_v t i) (h2 : t ≠ 288230376151711744) : vy_vr t v ∧ kd = 0 := by
  rcases R with ⟨a1, a2⟩ | ⟨a1, a2, a3, a4⟩ | ⟨a1, a2⟩
  · exact ⟨a2, a1⟩
  · exact absurd ⟨by omega, by omega⟩ (h1 v.toNat)
  · exact absurd a2 h2
/-- how a clause's reading ends -/
def vu_rP (ts : vy_T) (sd n : Nat) (RR : Nat → vu_R) (cnt : Nat) (rr : Nat → Nat → Int) (R : vu_C) (h : ve_H) (r : Int) (h1 : ve_H) : Prop := vx_fr (vu_Sk sd) h h1 ∧ match R with
  | .inl p => r = 0 ∧ vy_rbad p h1
  | .inr q => r = 1 ∧ match q.2.2.2 with
    | .inl f => vu_rS h1 ts sd q.1 q.2.1 q.2.2.1 n RR (vu_fa cnt rr (vu_row f.1 f.2)).1 (vu_fa cnt rr (vu_row f.1 f.2)).2
    | .inr R => vu_rS h1 ts sd q.1 q.2.1 q.2.2.1 (n + 1) (fun r => if r = n then R else RR r) cnt rr
theorem vu_rbad {RR : Nat → vu_R} {cnt : Nat} {rr : Nat → Nat → Int} {C : vu_C} {p : Int} (hsd : sd < 2) (hc : (30 * sd ≤ c ∧ c < 30 * sd + 30) ∨ c = 60) (e : C = .inl p) (f : vx_fr (vu_Sf c sd) h h1) (b : vy_rbad p h1) : vu_rP ts sd n RR cnt rr C h 0 h1 := by
  rw [e]
  exact ⟨vx_fr_mono f (fun a k q => vu_Sk_f hsd hc q), rfl, b⟩
/-- a clause that is a fact -/
theorem vu_rfact {RR : Nat → vu_R} {cnt j : Nat} {rr : Nat → Nat → Int} {C : vu_C} {p : Int} {A : Nat → Int} (hT : vx_T 625 672 g) (hsd : sd < 2) (hc : c = if n = 30 then 60 else 30 * sd + n) (S : vu_rS h ts sd i Pd F n RR cnt rr) (ok : vy_ok ts) (F0 : vx_fr (vu_Sf c sd) h g) (M : vu_mo Pd F Pd' F') (B : vy_rr g ts c sd true j V O Pd' F') (fi : vy_fi g ts j V O) (hA : vy_ra g A m) (c50 : vx_J g 625 50 = (m : Nat)) (c57 : vx_J g 625 57 = p) (hm : m ≤ 4) (h0 : ∀ k, m ≤ k → A k = 0) (hw : vz_aw V.1 false A) (hF : F'.1 = 0 → ∃ q : Nat, q < Pd'.1 ∧ p = q ∧ Pd'.2.2 q = m) (hij : i + 5 ≤ j) (e0 : C = if vy_ff V O ≠ -1 then .inl (vy_ff V O) else .inr (j, Pd', F', .inl (p, A))) :
    (((vx_J g 625 53) = ((-1)) → vx_CI d 53 [.ref 625] g (fun r29 h29 => vx_T 625 672 h29 → ((r29 ≠ ((-1)) → vu_rP ts sd n RR cnt rr C h 1 h29) ∧ (r29 = ((-1)) → vx_CV d 54 [.ref 625] h29 (fun h31 => vx_T 625 672 h31 → vu_rP ts sd n RR cnt rr C h 1 h31))))) ∧ ((vx_J g 625 53) ≠ ((-1)) → vx_CI d 32 [.ref 625, .int (vx_i (vx_J g 625 53))] g (fun r32 h32 => vx_T 625 672 h32 → (r32 = 0 ∨ r32 = 1) ∧ vu_rP ts sd n RR cnt rr C h r32 h32))) := by
  have hn := S.2.2.2.2.2.2.2.2.2.1
  have hcc : (30 * sd ≤ c ∧ c < 30 * sd + 30) ∨ c = 60 := by split at hc <;> omega
  obtain ⟨k1, k2, k3, k4, k5, c0, e47, l0, rF⟩ := vu_keepR hsd hc F0 S M
  have hi := S.2.2.1
  have hl := ok.2.1
  have F1 : F'.1 ≠ 1 := B.2.2.2.2.2.2
  refine ⟨fun q53 => ?_, fun q53 => ?_⟩
  · have ff : vy_ff V O = -1 := fi.1.symm.trans q53
    have V0 : V.1 = 0 := (vy_ff_none fi.2.1 (fun v hv => (fi.2.2 v hv).1)).mp ff
    rw [if_neg (fun t => t ff)] at e0
    have hv : ∀ k, k < m → vy_vr (A k) (vx_K g 659 k) := fun k hk => (vy_tr_val (hA k hk) (fun i hi => by have := (hw k).1 i hi; omega) ((hw k).2 rfl)).1
    refine vx_CI_mono (vc_53 hT hsd hm (show c0 ≤ 400 by omega) k2 c50 e47) ?_
    rintro r29 h29 _ ⟨rfl, p29⟩ T29
    rw [e0]
    refine ⟨fun q29 => ⟨vx_fr_mono F0 (fun a k q => vu_Sk_f hsd hcc q), rfl, ?_⟩, fun q29 => ?_⟩
    · show vu_rS h29 ts sd j Pd' F' n RR (vu_fa cnt rr (vu_row p A)).1 (vu_fa cnt rr (vu_row p A)).2
      refine ⟨k1, B.1.2.1, B.1.2.2.1, k2, k3, B.2.2.2.2.1, B.2.2.2.2.2.1, F1, k4, hn, k5, c0, e47, by omega, fun t => ?_⟩
      obtain ⟨t1, t2⟩ := rF t
      obtain ⟨pp, u1, u2, u3⟩ := hF t
      rcases p29 with ⟨z, -⟩ | ⟨j', v1, v2, v3, -⟩
      · exact absurd z q29
      · have : vr_eq 5 (rr j') (vu_row p A) := by rw [u2]; exact (vu_sm_iff (t2 j' (by omega)) u1 u3 (c57.trans u2) hv h0 hm).mp v3
        rw [vu_fa_t ⟨j', by omega, this⟩]
        exact ⟨t1, t2⟩
    · refine vx_CV_mono (vc_54 hT hsd hm (show c0 < 400 by omega) k2 c50 e47) ?_
      rintro h31 ⟨f31, a1, a2, a3⟩ T31
      have fk : vx_fr (vu_Sk sd) h h31 := vx_fr_trans (vx_fr_mono F0 (fun a k q => vu_Sk_f hsd hcc q)) (vx_fr_mono f31 (fun a k q => vu_Sk_a (by omega) q))
      refine ⟨fk, rfl, ?_⟩
      show vu_rS h31 ts sd j Pd' F' n RR (vu_fa cnt rr (vu_row p A)).1 (vu_fa cnt rr (vu_row p A)).2
      refine ⟨vy_kr_fr k1 f31 (fun k => by simp), (vx_fr_J f31 (by simp)).trans B.1.2.1, B.1.2.2.1, (vx_fr_J f31 (by simp)).trans k2, (vx_fr_J f31 (by simp)).trans k3, vy_rp_fr B.2.2.2.2.1 f31 (by simp), ⟨(vx_fr_J f31 (by simp)).trans B.2.2.2.2.2.1.1, (vx_fr_J f31 (by simp)).trans B.2.2.2.2.2.1.2⟩, F1, (vx_fr_J f31 (by simp)).trans k4, hn, fun r hr => vu_rr_fr (k5 r hr) f31 (fun a ha => by rcases ha with rfl | rfl | rfl | rfl | rfl | rfl <;> simp) (fun k _ _ => by simp) (fun k _ _ => by simp) (fun k _ _ => by simp), c0 + 1, by rw [a1]; omega, by omega, fun t => ?_⟩
      obtain ⟨t1, t2⟩ := rF t
      obtain ⟨pp, u1, u2, u3⟩ := hF t
      rcases p29 with ⟨-, z⟩ | ⟨j', v1, v2, -⟩
      · have no : ∀ j', j' < cnt → ¬ vr_eq 5 (rr j') (vu_row p A) := by
          intro j' hj' e
          rw [u2] at e
          exact z j' (by omega) ((vu_sm_iff (t2 j' hj') u1 u3 (c57.trans u2) hv h0 hm).mpr e)
        rw [vu_fa_f no]
        refine ⟨by show c0 + 1 = cnt + 1; omega, fun j' hj' => ?_⟩
        have hj' : j' < cnt + 1 := hj'
        show vu_rf h31 (400 * sd + j') Pd' (if j' = cnt then vu_row p A else rr j')
        by_cases q : j' = cnt
        · rw [if_pos q, q, ← t1]
          refine ⟨pp, m, u1, u3, hm, u2, a2.trans (c57.trans u2), fun k hk => ?_, fun k hk => h0 k hk⟩
          rw [a3 k hk]
          exact hv k hk
        · rw [if_neg q]
          refine vu_rf_fr (t2 j' (by omega)) f31 ⟨?_, fun k g1 g2 => ?_⟩
          · simp [vu_Sa]; omega
          · simp [vu_Sa]; omega
      · exfalso; omega
  · have ff : vy_ff V O ≠ -1 := fun t => q53 (fi.1.trans t)
    rw [if_pos ff] at e0
    refine vx_CI_mono (vc_32 hT (vx_rI_J _ _ _) (by rw [B.2.2.2.2.2.1.1]; exact F1)) ?_
    rintro r32 h32 _ ⟨rfl, f32, b32⟩ _
    rw [fi.1] at b32
    exact ⟨Or.inl rfl, vu_rbad hsd hcc e0 (vx_fr_trans F0 (vx_fr_mono f32 (fun a k q => Or.inl (Or.inl (Or.inl (vy_Sq_b q)))))) b32⟩
end
