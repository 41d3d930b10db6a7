/-! The search of the reference: its small methods -/
/-- the reference's variables: which have values, and which -/
def vn_S (h : ve_H) (u : Nat → Int) : Prop := ∀ v, v < 9 → (vx_J h 664 v = 0 ∨ vx_J h 664 v = 1) ∧ (v < 8 → vx_J h 664 v ≠ 0 → vy_vr (u v) (vx_K h 665 v))
def vn_ag (h : ve_H) (u w : Nat → Int) : Prop := ∀ v, v < 8 → vx_J h 664 v ≠ 0 → u v = w v
/-- a term has a value -/
def vn_th (h : ve_H) (t : Int) : Prop := ∀ i, vz_v t i → vx_J h 664 i ≠ 0
section
variable {h g : ve_H} {u w v : Nat → Int} {t x : Int}
theorem vn_ag_refl : vn_ag h u u := fun _ _ _ => rfl
theorem vn_v_ag (h1 : vn_ag h u w) (ht : vn_th h t) : vm_v u t = vm_v w t := by
  rcases vz_v_or t with ⟨i, hi⟩ | hn
  · rw [vm_v_v hi, vm_v_v hi]; exact h1 i hi.1 (ht i hi)
  · rw [vm_v_c hn, vm_v_c hn]
theorem vn_ag_mono (h1 : vn_ag g u w) (hs : ∀ v, v < 8 → vx_J h 664 v ≠ 0 → vx_J g 664 v ≠ 0) : vn_ag h u w := fun v hv q => h1 v hv (hs v hv q)
theorem vn_ag_trans (h1 : vn_ag h u w) (h2 : vn_ag h w v) : vn_ag h u v := fun i hi q => (h1 i hi q).trans (h2 i hi q)
theorem vn_ag_symm (h1 : vn_ag h u w) : vn_ag h w u := fun i hi q => (h1 i hi q).symm
theorem vn_S_fr {S : Nat → Nat → Prop} (X : vn_S h u) (f : vx_fr S h g) (hs : ∀ k, ¬ S 664 k ∧ ¬ S 665 k) : vn_S g u := fun v hv => by
  rw [vx_fr_J f (hs v).1, vx_fr_K f (hs v).2]; exact X v hv
theorem vn_th_fr {S : Nat → Nat → Prop} (f : vx_fr S h g) (hs : ∀ k, ¬ S 664 k) : vn_th g t ↔ vn_th h t := by
  unfold vn_th
  constructor
  · intro q i hi; have := q i hi; rw [vx_fr_J f (hs i)] at this; exact this
  · intro q i hi; rw [vx_fr_J f (hs i)]; exact q i hi
theorem vn_ag_fr {S : Nat → Nat → Prop} (f : vx_fr S h g) (hs : ∀ k, ¬ S 664 k) : vn_ag g u w ↔ vn_ag h u w := by
  unfold vn_ag
  constructor
  · intro q i hi hq; exact q i hi (by rw [vx_fr_J f (hs i)]; exact hq)
  · intro q i hi hq; rw [vx_fr_J f (hs i)] at hq; exact q i hi hq
end
section
variable {d l k : Nat} {h h1 : ve_H} {u : Nat → Int} {x y t e : Int} {A : Nat → Int}
theorem vc_68 (hT : vx_T 625 672 h) (hl : l < 366) (hk : k < 4) (hx : x = l) (hy : y = k) (R : vy_tr t (vx_J h 645 (4 * l + k)) (vx_K h 646 (4 * l + k))) (ht : t ≠ 288230376151711744) : vx_CI d 68 [.ref 625, .int (vx_i x), .int (vx_i y)] h (fun r h1 => h1 = h ∧ ((r = 1 ∧ vn_th h t) ∨ (r = 0 ∧ ¬ vn_th h t))) := by
  refine vg_68 hT ?_
  rw [show (4 * x + y).toNat = 4 * l + k by omega]
  rcases R with ⟨a1, a2⟩ | ⟨a1, a2, a3, a4⟩ | ⟨a1, a2⟩
  · have := vy_vr_nv a2
    exact ⟨by omega, fun _ => ⟨rfl, Or.inl ⟨rfl, fun i hi => by have := hi.2; omega⟩⟩, fun q => absurd a1 q⟩
  · obtain ⟨n, hn⟩ : ∃ n : Nat, vx_K h 646 (4 * l + k) = n := ⟨(vx_K h 646 (4 * l + k)).toNat, by omega⟩
    rw [hn] at a2 a3 a4 ⊢
    rw [show ((n : Nat) : Int).toNat = n by omega]
    have hv : vz_v t n := ⟨by omega, a2⟩
    refine ⟨by omega, fun q => absurd q (by omega), fun _ => ⟨by omega, by omega, fun q => ⟨rfl, Or.inr ⟨rfl, fun tt => tt n hv q⟩⟩, fun q => ⟨rfl, Or.inl ⟨rfl, fun i hi => ?_⟩⟩⟩⟩
    rw [vz_v_1 hi hv]; exact q
  · exact absurd a2 ht
theorem vc_69 (hT : vx_T 625 672 h) (hl : l < 366) (hk : k < 4) (hx : x = l) (hy : y = k) (S : vn_S h u) (R : vy_tr t (vx_J h 645 (4 * l + k)) (vx_K h 646 (4 * l + k))) (ht : t ≠ 288230376151711744) (th : vn_th h t) : vx_CL d 69 [.ref 625, .int (vx_i x), .int (vx_i y)] h (fun r h1 => h1 = h ∧ vy_vr (vm_v u t) r) := by
  refine vg_69 hT ?_
  rw [show (4 * x + y).toNat = 4 * l + k by omega]
  rcases R with ⟨a1, a2⟩ | ⟨a1, a2, a3, a4⟩ | ⟨a1, a2⟩
  · have := vy_vr_nv a2
    have nv : ∀ i, ¬ vz_v t i := fun i hi => by have := hi.2; omega
    exact ⟨by omega, fun q => absurd a1 q, fun _ => ⟨by omega, rfl, by rw [vm_v_c nv]; exact a2⟩⟩
  · obtain ⟨n, hn⟩ : ∃ n : Nat, vx_K h 646 (4 * l + k) = n := ⟨(vx_K h 646 (4 * l + k)).toNat, by omega⟩
    rw [hn] at a2 a3 a4 ⊢
    rw [show ((n : Nat) : Int).toNat = n by omega]
    have hv : vz_v t n := ⟨by omega, a2⟩
    exact ⟨by omega, fun _ => ⟨by omega, by omega, rfl, by rw [vm_v_v hv]; exact (S n (by omega)).2 (by omega) (th n hv)⟩, fun q => absurd q (by omega)⟩
  · exact absurd a2 ht
/-- what is known of a literal with m terms -/
def vn_lt (h : ve_H) (l m : Nat) (A : Nat → Int) : Prop := l < 366 ∧ m ≤ 4 ∧ (∀ k, k < m → vy_tr (A k) (vx_J h 645 (4 * l + k)) (vx_K h 646 (4 * l + k))) ∧ ∀ k, m ≤ k → k < 4 → A k = 0
theorem vn_lt_fr {S : Nat → Nat → Prop} {m : Nat} (X : vn_lt h l m A) (f : vx_fr S h h1) (hs : ∀ k, ¬ S 645 k ∧ ¬ S 646 k) : vn_lt h1 l m A := ⟨X.1, X.2.1, fun k hk => by rw [vx_fr_J f (hs _).1, vx_fr_K f (hs _).2]; exact X.2.2.1 k hk, X.2.2.2⟩
/-- a row of the reference -/
def vn_ro (h : ve_H) (i : Nat) (f : Nat → Int) : Prop := vx_J h 650 i = f 0 ∧ ∀ k, k < 4 → vy_vr (f (k + 1)) (vx_K h 652 (4 * i + k))
/-- a place of a row isn't against what is known -/
def vn_m1 (h : ve_H) (u : Nat → Int) (t x : Int) : Prop := t = 288230376151711744 ∨ ¬ vn_th h t ∨ vm_v u t = x
theorem vc_70_19 {m i : Nat} {f : Nat → Int} {v1 v2 : Int} (hT : vx_T 625 672 h) (S : vn_S h u) (X : vn_lt h l m A) (h61 : vx_J h 661 l = (m : Nat)) (hi : i < 260) (ro : vn_ro h i f) (hv1 : v1 = i) (hv2 : v2 = l) :
    ∀ (n k : Nat) (z : Int) (v4 : Option Value), n = m - k → k ≤ m → z = k → (∀ j, j < k → vn_m1 h u (A j) (f (j + 1))) → vx_W (d + 1) 70 19 [some (.ref 625), some (.int (vx_i v1)), some (.int (vx_i v2)), some (.int (vx_i z)), v4] [] h (vx_RI (fun r h1 => h1 = h ∧ ((r = 1 ∧ ∀ j, j < m → vn_m1 h u (A j) (f (j + 1))) ∨ (r = 0 ∧ ¬ ∀ j, j < m → vn_m1 h u (A j) (f (j + 1)))))) := by
  obtain ⟨hl, m4, tr, _⟩ := X
  intro n
  induction n with
  | zero =>
    intro k z v4 hn hk hz al
    refine vg_70_19 hT ?_
    rw [show v2.toNat = l by omega, h61]
    exact ⟨by omega, by omega, fun _ => ⟨rfl, Or.inl ⟨rfl, fun j hj => al j (by omega)⟩⟩, fun q => absurd q (by omega)⟩
  | succ n ih =>
    intro k z v4 hn hk hz al
    have hk' : k < m := by omega
    have rk := tr k hk'
    have rok := ro.2 k (by omega)
    have nx : vn_m1 h u (A k) (f (k + 1)) → ∀ v4, vx_W (d + 1) 70 19 [some (.ref 625), some (.int (vx_i v1)), some (.int (vx_i v2)), some (.int (vx_i (z + 1))), v4] [] h (vx_RI (fun r h1 => h1 = h ∧ ((r = 1 ∧ ∀ j, j < m → vn_m1 h u (A j) (f (j + 1))) ∨ (r = 0 ∧ ¬ ∀ j, j < m → vn_m1 h u (A j) (f (j + 1)))))) := fun q v4 => ih (k + 1) (z + 1) v4 (by omega) (by omega) (by omega) (fun j hj => by
      by_cases e : j = k
      · rw [e]; exact q
      · exact al j (by omega))
    refine vg_70_19 hT ?_
    rw [show v2.toNat = l by omega, h61, show (4 * v2 + z).toNat = 4 * l + k by omega]
    refine ⟨by omega, by omega, fun q => absurd q (by omega), fun _ => ⟨by omega, fun k2 => ?_, fun k2 => ?_⟩⟩
    · refine nx (Or.inl ?_) _
      rcases rk with ⟨a, _⟩ | ⟨a, _⟩ | ⟨_, a⟩
      · omega
      · omega
      · exact a
    · have na : A k ≠ 288230376151711744 := by
        rcases rk with ⟨_, a⟩ | ⟨_, a, a2, a3⟩ | ⟨a, _⟩
        · have := vy_vr_nv a; omega
        · omega
        · exact absurd a k2
      -- a value that is there is compared
      have cmp : vn_th h (A k) → vx_CL d 69 [.ref 625, .int (vx_i v2), .int (vx_i z)] h (fun r7 h7 => vx_T 625 672 h7 → (0 ≤ 4 * v1 + z ∧ 4 * v1 + z < 1040) ∧ ((r7 = vx_K h7 652 (4 * v1 + z).toNat → vx_W (d + 1) 70 19 [some (.ref 625), some (.int (vx_i v1)), some (.int (vx_i v2)), some (.int (vx_i (z + 1))), some (.int (vx_i (vx_J h 645 (4 * l + k))))] [] h7 (vx_RI (fun r h1 => h1 = h ∧ ((r = 1 ∧ ∀ j, j < m → vn_m1 h u (A j) (f (j + 1))) ∨ (r = 0 ∧ ¬ ∀ j, j < m → vn_m1 h u (A j) (f (j + 1))))))) ∧ (r7 ≠ vx_K h7 652 (4 * v1 + z).toNat → h7 = h ∧ (((0 : Int) = 1 ∧ ∀ j, j < m → vn_m1 h u (A j) (f (j + 1))) ∨ ((0 : Int) = 0 ∧ ¬ ∀ j, j < m → vn_m1 h u (A j) (f (j + 1))))))) := by
        intro th
        refine vx_CL_mono (vc_69 hT hl (by omega) hv2 hz S rk na th) ?_
        rintro r7 h7 _ ⟨rfl, e7⟩ _
        rw [show (4 * v1 + z).toNat = 4 * i + k by omega]
        refine ⟨by omega, fun q => nx (Or.inr (Or.inr ((vy_vr_eq e7 rok).mp q))) _, fun q => ⟨rfl, Or.inr ⟨rfl, fun al2 => ?_⟩⟩⟩
        rcases al2 k hk' with t | t | t
        · exact na t
        · exact t th
        · exact q ((vy_vr_eq e7 rok).mpr t)
      refine ⟨fun k1 => cmp (fun j hj => ?_), fun k1 => ?_⟩
      · rcases rk with ⟨_, a⟩ | ⟨a, _⟩ | ⟨a, _⟩
        · have := vy_vr_nv a
          have := hj.2
          omega
        · exact absurd a k1
        · exact absurd a k2
      · obtain ⟨a2, a3, a4⟩ : A k = 144115188075855872 + vx_K h 646 (4 * l + k) ∧ 0 ≤ vx_K h 646 (4 * l + k) ∧ vx_K h 646 (4 * l + k) < 8 := by
          rcases rk with ⟨a, _⟩ | ⟨_, a⟩ | ⟨a, _⟩
          · omega
          · exact a
          · omega
        obtain ⟨n', hn'⟩ : ∃ n : Nat, vx_K h 646 (4 * l + k) = n := ⟨(vx_K h 646 (4 * l + k)).toNat, by omega⟩
        rw [hn'] at a2 a3 a4 ⊢
        rw [show ((n' : Nat) : Int).toNat = n' by omega]
        have hv : vz_v (A k) n' := ⟨by omega, a2⟩
        refine ⟨by omega, by omega, fun q => cmp (fun j hj => by rw [vz_v_1 hj hv]; exact q), fun q => nx (Or.inr (Or.inl (fun th => th n' hv q))) _⟩
theorem vc_70 {m i p : Nat} {f : Nat → Int} (hT : vx_T 625 672 h) (S : vn_S h u) (X : vn_lt h l m A) (h61 : vx_J h 661 l = (m : Nat)) (h44 : vx_J h 644 l = p) (hi : i < 260) (ro : vn_ro h i f) (hx : x = i) (hy : y = l) : vx_CI (d + 1) 70 [.ref 625, .int (vx_i x), .int (vx_i y)] h (fun r h1 => h1 = h ∧ ((r = 1 ∧ f 0 = p ∧ ∀ j, j < m → vn_m1 h u (A j) (f (j + 1))) ∨ (r = 0 ∧ ¬ (f 0 = p ∧ ∀ j, j < m → vn_m1 h u (A j) (f (j + 1)))))) := by
  have hl := X.1
  refine vg_70 hT ?_
  rw [show x.toNat = i by omega, show y.toNat = l by omega, ro.1, h44]
  refine ⟨by omega, by omega, fun q => ?_, fun q => ⟨rfl, Or.inr ⟨rfl, fun t => q t.1⟩⟩⟩
  refine vx_mono (vc_70_19 (d := d) hT S X h61 hi ro hx hy m 0 0 none rfl (by omega) rfl (fun j hj => absurd hj (by omega))) ?_
  rintro ot h1 ⟨r, e1, e2, e3, e4⟩
  refine ⟨r, e1, e2, e3, ?_⟩
  rcases e4 with ⟨a, b⟩ | ⟨a, b⟩
  · exact Or.inl ⟨a, q, b⟩
  · exact Or.inr ⟨a, fun t => b t.2⟩
theorem vc_75 {v : Nat} {z : Int} (hT : vx_T 625 672 h) (hl : l < 366) (hk : k < 4) (hx : x = l) (hy : y = k) (S : vn_S h u) (R : vy_tr t (vx_J h 645 (4 * l + k)) (vx_K h 646 (4 * l + k))) (hv : vz_v t v) (hz : vy_vr e z) : vx_CV d 75 [.ref 625, .int (vx_i x), .int (vx_i y), .long (vx_l z)] h (fun h1 => vx_fr (fun a _ => a = 664 ∨ a = 665) h h1 ∧ vn_S h1 (fun j => if j = v then e else u j) ∧ ∀ j, vx_J h1 664 j = if j = v then 1 else vx_J h 664 j) := by
  have ev : vx_K h 646 (4 * l + k) = v := by
    have h1 := hv.1
    have h2 := hv.2
    rcases R with ⟨_, a⟩ | ⟨_, a, _⟩ | ⟨_, a⟩
    · have := vy_vr_nv a; omega
    · omega
    · omega
  have v8 := hv.1
  refine vg_75 hT ?_
  rw [show (4 * x + y).toNat = 4 * l + k by omega, ev, show ((v : Nat) : Int).toNat = v by omega]
  refine ⟨by omega, by omega, ?_⟩
  rintro h3 e3 _
  refine ⟨by omega, ?_⟩
  rintro h5 e5 _
  have j5 : ∀ j, vx_J h5 664 j = if j = v then 1 else vx_J h 664 j := fun j => by
    rw [e5, vx_J_sK, e3]
    by_cases q : j = v
    · rw [if_pos q, q, vx_J_eq (by decide)]
    · rw [if_neg q, vx_J_ne (by omega)]
  refine ⟨vx_fr_sK (vx_fr_sJ vx_fr_refl e3 (Or.inl rfl)) e5 (Or.inr rfl), fun j hj => ?_, j5⟩
  rw [j5 j]
  by_cases q : j = v
  · rw [if_pos q]
    refine ⟨Or.inr rfl, fun _ _ => ?_⟩
    show vy_vr (if j = v then e else u j) _
    rw [if_pos q, q, e5, vx_K_eq (vy_vr_l hz).1]; exact hz
  · rw [if_neg q]
    refine ⟨(S j hj).1, fun h8 hq => ?_⟩
    show vy_vr (if j = v then e else u j) _
    rw [if_neg q, e5, vx_K_ne (by omega), e3]
    exact (S j hj).2 h8 hq
/-- take: a row's values go to the variables -/
theorem vc_71_2 {m i : Nat} {f u0 : Nat → Int} {g0 : ve_H} {v1 v2 : Int} (X : vn_lt g0 l m A) (h61 : vx_J g0 661 l = (m : Nat)) (hi : i < 260) (ro : vn_ro g0 i f) (hv1 : v1 = i) (hv2 : v2 = l) (lk : ∀ j, j < m → vn_m1 g0 u0 (A j) (f (j + 1))) :
    ∀ (n k : Nat) (h : ve_H) (u : Nat → Int) (z : Int) (v4 : Option Value), n = m - k → k ≤ m → z = k → vx_T 625 672 h → vx_fr (fun a _ => a = 664 ∨ a = 665) g0 h → vn_S h u → (∀ v, v < 8 → vx_J g0 664 v ≠ 0 → vx_J h 664 v ≠ 0) → vn_ag g0 u0 u → (∀ v, vx_J h 664 v ≠ 0 ↔ (vx_J g0 664 v ≠ 0 ∨ ∃ j, j < k ∧ vz_v (A j) v)) → (∀ j, j < k → vm_m1 u (A j) (f (j + 1))) → (∀ w, vn_ag g0 u0 w → (∀ j, j < k → vm_m1 w (A j) (f (j + 1))) → vn_ag h u w) →
    vx_W d 71 2 [some (.ref 625), some (.int (vx_i v1)), some (.int (vx_i v2)), some (.int (vx_i z)), v4] [] h (vx_RI (fun r h1 => vx_fr (fun a _ => a = 664 ∨ a = 665) g0 h1 ∧ ((r = 1 ∧ ∃ u1, vn_S h1 u1 ∧ vn_ag g0 u0 u1 ∧ (∀ v, vx_J h1 664 v ≠ 0 ↔ (vx_J g0 664 v ≠ 0 ∨ ∃ j, j < m ∧ vz_v (A j) v)) ∧ (∀ j, j < m → vm_m1 u1 (A j) (f (j + 1))) ∧ ∀ w, vn_ag g0 u0 w → (∀ j, j < m → vm_m1 w (A j) (f (j + 1))) → vn_ag h1 u1 w) ∨ (r = 0 ∧ ∀ w, vn_ag g0 u0 w → ¬ ∀ j, j < m → vm_m1 w (A j) (f (j + 1)))))) := by
  obtain ⟨hl, m4, tr, _⟩ := X
  intro n
  induction n with
  | zero =>
    intro k h u z v4 hn hk hz hT F S mo ag hb mk un
    have ek : k = m := by omega
    subst ek
    refine vg_71_2 hT ?_
    rw [show v2.toNat = l by omega, vx_fr_J F (show ¬ ((661 : Nat) = 664 ∨ (661 : Nat) = 665) by decide), h61]
    exact ⟨by omega, by omega, fun _ => ⟨F, Or.inl ⟨rfl, u, S, ag, hb, mk, un⟩⟩, fun q => absurd q (by omega)⟩
  | succ n ih =>
    intro k h u z v4 hn hk hz hT F S mo ag hb mk un
    have hk' : k < m := by omega
    have rk := tr k hk'
    have rok := ro.2 k (by omega)
    have e645 : vx_J h 645 (4 * l + k) = vx_J g0 645 (4 * l + k) := vx_fr_J F (by decide)
    have e646 : vx_K h 646 (4 * l + k) = vx_K g0 646 (4 * l + k) := vx_fr_K F (by decide)
    have e652 : ∀ j, vx_K h 652 j = vx_K g0 652 j := fun j => vx_fr_K F (by decide)
    refine vg_71_2 hT ?_
    rw [show v2.toNat = l by omega, vx_fr_J F (show ¬ ((661 : Nat) = 664 ∨ (661 : Nat) = 665) by decide), h61, show (4 * v2 + z).toNat = 4 * l + k by omega, show (4 * v1 + z).toNat = 4 * i + k by omega, e645, e646]
    have nextS : ∀ {u : Nat → Int}, (∀ j, j < k → vm_m1 u (A j) (f (j + 1))) → vm_m1 u (A k) (f (k + 1)) → ∀ j, j < k + 1 → vm_m1 u (A j) (f (j + 1)) := fun a b j hj => by
      by_cases e : j = k
      · rw [e]; exact b
      · exact a j (by omega)
    refine ⟨by omega, by omega, fun q => absurd q (by omega), fun _ => ⟨by omega, fun k1 => ?_, fun k1 => ?_⟩⟩
    · obtain ⟨a2, a3, a4⟩ : A k = 144115188075855872 + vx_K g0 646 (4 * l + k) ∧ 0 ≤ vx_K g0 646 (4 * l + k) ∧ vx_K g0 646 (4 * l + k) < 8 := by
        rcases rk with ⟨a, _⟩ | ⟨_, a⟩ | ⟨a, _⟩
        · omega
        · exact a
        · omega
      obtain ⟨n', hn'⟩ : ∃ n : Nat, vx_K g0 646 (4 * l + k) = n := ⟨(vx_K g0 646 (4 * l + k)).toNat, by omega⟩
      rw [hn'] at a2 a3 a4 ⊢
      rw [show ((n' : Nat) : Int).toNat = n' by omega]
      have hv : vz_v (A k) n' := ⟨by omega, a2⟩
      have n8 : n' < 8 := by omega
      have na : A k ≠ 288230376151711744 := by omega
      -- the variable takes the row's value
      have put : ∀ (h10 h13 : ve_H), (vx_J h 664 n' ≠ 0 → u n' = f (k + 1)) → h10 = vx_sJ h 664 n' 1 → h13 = vx_sK h10 665 n' (vx_K h10 652 (4 * i + k)) → vx_T 625 672 h13 → ∀ v4, vx_W d 71 2 [some (.ref 625), some (.int (vx_i v1)), some (.int (vx_i v2)), some (.int (vx_i (z + 1))), v4] [] h13 (vx_RI (fun r h1 => vx_fr (fun a _ => a = 664 ∨ a = 665) g0 h1 ∧ ((r = 1 ∧ ∃ u1, vn_S h1 u1 ∧ vn_ag g0 u0 u1 ∧ (∀ v, vx_J h1 664 v ≠ 0 ↔ (vx_J g0 664 v ≠ 0 ∨ ∃ j, j < m ∧ vz_v (A j) v)) ∧ (∀ j, j < m → vm_m1 u1 (A j) (f (j + 1))) ∧ ∀ w, vn_ag g0 u0 w → (∀ j, j < m → vm_m1 w (A j) (f (j + 1))) → vn_ag h1 u1 w) ∨ (r = 0 ∧ ∀ w, vn_ag g0 u0 w → ¬ ∀ j, j < m → vm_m1 w (A j) (f (j + 1)))))) := by
        intro h10 h13 same e10 e13 hT13 v4
        have e10K : vx_K h10 652 (4 * i + k) = vx_K g0 652 (4 * i + k) := by rw [e10, vx_K_sJ, e652]
        rw [e10K] at e13
        have j13 : ∀ j, vx_J h13 664 j = if j = n' then 1 else vx_J h 664 j := fun j => by
          rw [e13, vx_J_sK, e10]
          by_cases q : j = n'
          · rw [if_pos q, q, vx_J_eq (by decide)]
          · rw [if_neg q, vx_J_ne (by omega)]
        have k13 : ∀ j, vx_K h13 665 j = if j = n' then vx_K g0 652 (4 * i + k) else vx_K h 665 j := fun j => by
          rw [e13]
          by_cases q : j = n'
          · rw [if_pos q, q, vx_K_eq (vx_rL_K _ _ _)]
          · rw [if_neg q, vx_K_ne (by omega), e10, vx_K_sJ]
        obtain ⟨u', eu'⟩ : ∃ u' : Nat → Int, u' = fun j => if j = n' then f (k + 1) else u j := ⟨_, rfl⟩
        have uu : ∀ j, vx_J h 664 j ≠ 0 → u' j = u j := fun j q => by
          rw [eu']
          show (if j = n' then f (k + 1) else u j) = u j
          by_cases e : j = n'
          · rw [if_pos e, e]; rw [e] at q; exact (same q).symm
          · rw [if_neg e]
        have un' : u' n' = f (k + 1) := by rw [eu']; show (if n' = n' then f (k + 1) else u n') = _; rw [if_pos rfl]
        refine ih (k + 1) h13 u' (z + 1) v4 (by omega) (by omega) (by omega) hT13 (vx_fr_sK (vx_fr_sJ F e10 (Or.inl rfl)) e13 (Or.inr rfl)) (fun j hj => ?_) (fun v hv8 hq => ?_) (fun v hv8 hq => ?_) (fun v => ?_) (nextS (fun j hj => ?_) (Or.inr (by rw [vm_v_v hv]; exact un'))) (fun w hw hA v hv8 hq => ?_)
        · rw [j13 j, k13 j]
          by_cases e : j = n'
          · rw [if_pos e, if_pos e]
            exact ⟨Or.inr rfl, fun _ _ => by rw [e, un']; exact rok⟩
          · rw [if_neg e, if_neg e]
            exact ⟨(S j hj).1, fun h8 hq => by rw [uu j hq]; exact (S j hj).2 h8 hq⟩
        · rw [j13 v]
          by_cases e : v = n'
          · rw [if_pos e]; decide
          · rw [if_neg e]; exact mo v hv8 hq
        · rw [uu v (mo v hv8 hq)]; exact ag v hv8 hq
        · rw [j13 v]
          by_cases e : v = n'
          · rw [if_pos e, e]
            exact ⟨fun _ => Or.inr ⟨k, by omega, hv⟩, fun _ => by decide⟩
          · rw [if_neg e, hb v]
            constructor
            · rintro (q | ⟨j, j1, j2⟩)
              · exact Or.inl q
              · exact Or.inr ⟨j, by omega, j2⟩
            · rintro (q | ⟨j, j1, j2⟩)
              · exact Or.inl q
              · by_cases ej : j = k
                · rw [ej] at j2; exact absurd (vz_v_1 j2 hv) e
                · exact Or.inr ⟨j, by omega, j2⟩
        · rcases mk j hj with q | q
          · exact Or.inl q
          · refine Or.inr (Eq.trans ?_ q)
            rcases vz_v_or (A j) with ⟨y, hy⟩ | hn
            · rw [vm_v_v hy, vm_v_v hy]
              exact uu y ((hb y).mpr (Or.inr ⟨j, hj, hy⟩))
            · rw [vm_v_c hn, vm_v_c hn]
        · rw [j13 v] at hq
          by_cases e : v = n'
          · rw [e, un']
            rcases hA k (by omega) with q | q
            · exact absurd q na
            · rw [vm_v_v hv] at q; exact q.symm
          · rw [if_neg e] at hq
            rw [uu v hq]
            exact un w hw (fun j hj => hA j (by omega)) v hv8 hq
      refine ⟨by omega, by omega, fun q0 => ⟨by omega, ?_⟩, fun q0 => ⟨by omega, by omega, fun qe => ⟨by omega, ?_⟩, fun qe => ⟨F, Or.inr ⟨rfl, fun w hw hA => ?_⟩⟩⟩⟩
      · rintro h10 e10 hT10
        refine ⟨by omega, by omega, ?_⟩
        rintro h13 e13 hT13
        exact put h10 h13 (fun t => absurd q0 t) e10 e13 hT13 _
      · rintro h18 e18 hT18
        refine ⟨by omega, by omega, ?_⟩
        rintro h21 e21 hT21
        refine put h18 h21 (fun t => ?_) e18 e21 hT21 _
        rw [e652] at qe
        exact (vy_vr_eq ((S n' (by omega)).2 n8 t) rok).mp qe
      · have wu : u n' = w n' := un w hw (fun j hj => hA j (by omega)) n' n8 q0
        rcases hA k hk' with q | q
        · exact na q
        · rw [vm_v_v hv, ← wu] at q
          rw [e652] at qe
          exact qe ((vy_vr_eq ((S n' (by omega)).2 n8 q0) rok).mpr q)
    · have nv : ∀ j, ¬ vz_v (A k) j := fun j hj => by
        have := hj.1
        have := hj.2
        rcases rk with ⟨_, a⟩ | ⟨a, _⟩ | ⟨_, a⟩
        · have := vy_vr_nv a; omega
        · exact k1 a
        · omega
      have mk1 : ∀ w : Nat → Int, vm_m1 w (A k) (f (k + 1)) := fun w => by
        rcases lk k hk' with q | q | q
        · exact Or.inl q
        · exact absurd (fun j hj => absurd hj (nv j)) q
        · rw [vm_v_c nv] at q
          exact Or.inr (by rw [vm_v_c nv]; exact q)
      refine ih (k + 1) h u (z + 1) v4 (by omega) (by omega) (by omega) hT F S mo ag (fun v => (hb v).trans ⟨fun q => ?_, fun q => ?_⟩) (nextS mk (mk1 u)) (fun w hw hA => un w hw (fun j hj => hA j (by omega)))
      · rcases q with q | ⟨j, j1, j2⟩
        · exact Or.inl q
        · exact Or.inr ⟨j, by omega, j2⟩
      · rcases q with q | ⟨j, j1, j2⟩
        · exact Or.inl q
        · by_cases ej : j = k
          · rw [ej] at j2; exact absurd j2 (nv v)
          · exact Or.inr ⟨j, by omega, j2⟩
theorem vc_71 {m i : Nat} {f : Nat → Int} (hT : vx_T 625 672 h) (S : vn_S h u) (X : vn_lt h l m A) (h61 : vx_J h 661 l = (m : Nat)) (hi : i < 260) (ro : vn_ro h i f) (hx : x = i) (hy : y = l) (lk : ∀ j, j < m → vn_m1 h u (A j) (f (j + 1))) : vx_CI d 71 [.ref 625, .int (vx_i x), .int (vx_i y)] h (fun r h1 => vx_fr (fun a _ => a = 664 ∨ a = 665) h h1 ∧ ((r = 1 ∧ ∃ u1, vn_S h1 u1 ∧ vn_ag h u u1 ∧ (∀ v, vx_J h1 664 v ≠ 0 ↔ (vx_J h 664 v ≠ 0 ∨ ∃ j, j < m ∧ vz_v (A j) v)) ∧ (∀ j, j < m → vm_m1 u1 (A j) (f (j + 1))) ∧ ∀ w, vn_ag h u w → (∀ j, j < m → vm_m1 w (A j) (f (j + 1))) → vn_ag h1 u1 w) ∨ (r = 0 ∧ ∀ w, vn_ag h u w → ¬ ∀ j, j < m → vm_m1 w (A j) (f (j + 1))))) :=
  vg_71 hT (vc_71_2 X h61 hi ro hx hy lk m 0 h u 0 none rfl (by omega) rfl hT vx_fr_refl S (fun v _ q => q) vn_ag_refl (fun v => ⟨fun q => Or.inl q, fun q => by
    rcases q with q | ⟨j, j1, _⟩
    · exact q
    · exact absurd j1 (by omega)⟩) (fun j hj => absurd hj (by omega)) (fun w hw _ => hw))
end
