/-! solve: the pair -/
section
variable {S S' : vu_S} {st : Nat → Nat} {s t N cnt : Nat} {rr : Nat → Nat → Int} {cm : Nat → Int}
theorem vi_E_fs (E : vi_E S S') : vm_fs S' st s = vm_fs S st s := by
  funext f
  apply propext
  constructor
  · rintro ⟨j, j1, j2, j3⟩
    obtain ⟨k, k1, k2⟩ := (E.2.2.2.2 f).mpr ⟨j, j1, j2⟩
    exact ⟨k, k1, k2, j3⟩
  · rintro ⟨j, j1, j2, j3⟩
    obtain ⟨k, k1, k2⟩ := (E.2.2.2.2 f).mp ⟨j, j1, j2⟩
    exact ⟨k, k1, k2, j3⟩
theorem vi_E_nw (E : vi_E S S') {tot : Prop} {D : vm_S} : vm_nw S' st s tot D = vm_nw S st s tot D := by
  unfold vm_nw
  rw [E.2.1, E.2.2.1]
theorem vi_E_rd (E : vi_E S S') {B : vm_S} : ∀ t, vm_rd S' st s B t = vm_rd S st s B t
  | 0 => rfl
  | t + 1 => by
    show (fun f => vm_rd S' st s B t f ∨ vm_nw S' st s (t = 0) (vm_rd S' st s B t) f) = (fun f => vm_rd S st s B t f ∨ vm_nw S st s (t = 0) (vm_rd S st s B t) f)
    rw [vi_E_rd E t, vi_E_nw E]
theorem vi_E_ml (E : vi_E S S') : ∀ s, vm_ml S' st s = vm_ml S st s
  | 0 => rfl
  | s + 1 => by
    show (fun f => ∃ t, vm_rd S' st s (fun f => vm_ml S' st s f ∨ vm_fs S' st s f) t f) = (fun f => ∃ t, vm_rd S st s (fun f => vm_ml S st s f ∨ vm_fs S st s f) t f)
    rw [vi_E_ml E s, vi_E_fs E]
    funext f
    apply propext
    constructor
    · rintro ⟨t, q⟩
      exact ⟨t, by rw [← vi_E_rd E]; exact q⟩
    · rintro ⟨t, q⟩
      exact ⟨t, by rw [vi_E_rd E]; exact q⟩
theorem vi_E_mt (E : vi_E S S') : vm_mt S' st s t = vm_mt S st s t := by
  have b : vm_ba S' st s = vm_ba S st s := by
    unfold vm_ba
    rw [vi_E_ml E, vi_E_fs E]
  show vm_rd S' st s (vm_ba S' st s) t = vm_rd S st s (vm_ba S st s) t
  rw [b, vi_E_rd E]
theorem vi_E_lb (E : vi_E S S') (V : vm_lb S' st N cnt rr cm) : vm_lb S st N cnt rr cm := by
  obtain ⟨v1, v2, v3⟩ := V
  refine ⟨fun f => by rw [← vi_E_ml E]; exact v1 f, v2, fun i hi => ?_⟩
  obtain ⟨s', t', a1, a2, a3, a4⟩ := v3 i hi
  exact ⟨s', t', a1, a2, by rw [← vi_E_mt E]; exact a3, fun t'' ht q => a4 t'' ht (by rw [vi_E_mt E]; exact q)⟩
theorem vi_E_lg0 (E : vi_E S S') (V : vm_lg0 S' st s) : vm_lg0 S st s := by
  intro r hr hst hO
  have t := V r (by rw [E.2.1]; exact hr) (by rw [E.2.2.1]; exact hst) (by rw [E.2.2.1]; exact hO)
  rw [E.2.2.1, vi_E_mt E] at t
  exact t
theorem vi_E_big (E : vi_E S S') (V : vm_big S' st N) : vm_big S st N := by
  rcases V with ⟨s, t, f, a1, a2, a3⟩ | ⟨s, r, us, a1, a2, a3, a4, a5, a6⟩
  · exact Or.inl ⟨s, t, f, a1, fun i hi => by rw [← vi_E_mt E]; exact a2 i hi, a3⟩
  · rw [E.2.1] at a2
    rw [E.2.2.1] at a3 a4 a5 a6
    rw [vi_E_mt E] at a5
    exact Or.inr ⟨s, r, us, a1, a2, a3, a4, a5, a6⟩
end
section
variable {Sx : Nat → Nat → Prop} {h h1 : ve_H}
/-- the same cells with another count of them -/
def vx_hn (h h1 : ve_H) : ve_H := ((ve_n h1, ve_u h1), h.2)
theorem vx_fq_h (f : vx_fq Sx h h1) : vx_fr Sx (vx_hn h h1) h1 := ⟨⟨rfl, rfl⟩, f.2⟩
end
/-- how the class's solve ends -/
def vi_sP (S : vu_S) (st : Nat → Nat) (N : Nat) (h : ve_H) (r : Int) (h1 : ve_H) : Prop := (vx_J h 1 8 = 1 ∧ h1 = h ∧ r = vx_J h 23 4) ∨ (vx_J h 1 8 = 0 ∧ vx_J h 1 9 < 40 ∧ vx_fr (fun a k => (a = 21 ∧ k = 6) ∨ vm_Wm a k ∨ (a = 1 ∧ (k = 8 ∨ k = 9))) h h1 ∧ vx_J h1 1 8 = 1 ∧ vx_J h1 1 9 = vx_J h 1 9 + 1 ∧ r = vx_J h1 23 4 ∧ ∃ cnt rr cm o, vm_M h1 cnt rr cm ∧ cnt ≤ 200 ∧ vm_lb S st N cnt rr cm ∧ (∀ s, s < N → vm_lg0 S st s) ∧ vr_so 5 rr o cnt ∧ ∀ j, j < cnt → vx_J h1 25 j = o j)
def vi_sX (S : vu_S) (st : Nat → Nat) (N : Nat) (h : ve_H) (h1 : ve_H) : Prop := ((vx_J h 1 8 = 2 ∨ (vx_J h 1 8 = 0 ∧ vx_J h 1 9 = 40)) ∧ vx_fq (fun _ _ => False) h h1) ∨ (vx_J h 1 8 = 0 ∧ vx_J h 1 9 < 40 ∧ vx_fq (fun a k => (a = 21 ∧ k = 6) ∨ vm_Wm a k ∨ (a = 1 ∧ (k = 8 ∨ k = 9))) h h1 ∧ vx_J h1 1 8 = 2 ∧ vx_J h1 1 9 = vx_J h 1 9 + 1 ∧ vm_big S st N ∧ vx_J h1 23 0 = (5 : Nat))
section
variable {d pi N : Nat} {S : vu_S} {st : Nat → Nat} {h : ve_H}
theorem vc_5 (hT : vx_T 1 625 h) (PG : vm_pg S st) (s1 : vx_J h 1 8 = 0 ∨ vx_J h 1 8 = 1 ∨ vx_J h 1 8 = 2) (s2 : 0 ≤ vx_J h 1 9 ∧ vx_J h 1 9 ≤ 40) (p1 : ve_R h 1 3 = some pi) (p2 : vu_cg h pi S.1 S.2.2.1 S.2.2.2.1) (p3 : vs_cs h pi st) (p4 : vr_P (pi + 6) 5 S.2.2.2.2.1 S.2.2.2.2.2 h) (p5 : S.2.2.2.2.1 ≤ 200) (p6 : vx_J h pi 8 = (N : Nat)) (hN : N ≤ 17) (w1 : vx_J h 34 0 = (5 : Nat)) (w2 : vx_J h 23 0 = (5 : Nat)) (rk : ∀ h1, ve_n h1 = ve_n h → ve_u h1 = ve_u h → ve_rk h1 6 = true) : vx_CX (d + 13) 5 [.ref 1] h (vi_sP S st N h) (fun kx h1 => kx = 11 ∧ vi_sX S st N h h1) := by
  have opi := p2.1.1
  have ppo := (vx_po opi).2.2.2.2.2.2
  have fK := vu_fK opi
  refine vg_5 (d := d + 12) hT ⟨fun q => ⟨fun q2 => Or.inl ⟨by omega, rfl, rfl⟩, fun q2 => ⟨rk h rfl rfl, fun h3 e3 _ => ⟨rfl, Or.inl ⟨Or.inl q2, vx_fq_new e3⟩⟩⟩⟩, fun q => ⟨fun q2 => ?_, fun q2 => ⟨rk h rfl rfl, fun h14 e14 _ => ⟨rfl, Or.inl ⟨Or.inr ⟨q, by omega⟩, vx_fq_new e14⟩⟩⟩⟩⟩
  rintro h6 e6 hT6
  have F6 : vx_fr (fun a k => a = 1 ∧ k = 9) h h6 := vx_fr_sJ vx_fr_refl e6 ⟨rfl, rfl⟩
  refine ⟨pi, (vx_fr_R F6 (by omega)).trans p1, opi, vx_CI_mono (vc_105 (d := d) (N := N) PG p5 hN opi hT6 (vu_cg_fr p2 F6 ⟨⟨by omega, by omega⟩, fun k => ⟨by omega, by omega⟩, fun a k _ _ => by omega⟩) (fun p hp => (vx_fr_J F6 (by omega)).trans (p3 p hp)) (vr_P_fr p4 fK.1 F6 (fun b k q t => by have := fK.2; omega)) ((vx_fr_J F6 (by omega)).trans p6) ((vx_fr_J F6 (by omega)).trans w1) ((vx_fr_J F6 (by omega)).trans w2)) ?_⟩
  rintro r8 h8 _ ⟨F8, q8⟩ _
  have j9 : vx_J h8 1 9 = vx_J h 1 9 + 1 := by rw [vx_fr_J F8 (by omega), e6, vx_J_eq (by omega)]
  refine ⟨fun r0 => ?_, fun r0 => ?_⟩
  · rintro h10 e10 _
    obtain ⟨big, w8⟩ : vm_big S st N ∧ vx_J h8 23 0 = (5 : Nat) := by
      rcases q8 with ⟨t, _⟩ | ⟨_, t⟩
      · omega
      · exact t
    have F10 : vx_fr (fun a k => (a = 21 ∧ k = 6) ∨ vm_Wm a k ∨ (a = 1 ∧ (k = 8 ∨ k = 9))) h h10 := vx_fr_sJ (vx_fr_trans (vx_fr_mono F6 (fun a k q => by omega)) (vx_fr_mono F8 (fun a k q => by omega))) e10 (by omega)
    refine ⟨rk h10 F10.1.1 F10.1.2, fun h11 e11 _ => ⟨rfl, Or.inr ⟨q, q2, vx_fq_r F10 (vx_fq_new e11), ?_, ?_, big, ?_⟩⟩⟩
    · rw [e11]
      show vx_J h10 1 8 = 2
      rw [e10, vx_J_eq (by decide)]
    · rw [e11]
      show vx_J h10 1 9 = _
      rw [e10, vx_J_ne (by omega)]; exact j9
    · rw [e11]
      show vx_J h10 23 0 = _
      rw [e10, vx_J_ne (by omega)]; exact w8
  · rintro h13 e13 _
    rcases q8 with ⟨_, cnt, rr, cm, o, m1, m2, m3, m4, m5, m6⟩ | ⟨t, _⟩
    · have F13 : vx_fr (fun a k => a = 1 ∧ k = 8) h8 h13 := vx_fr_sJ vx_fr_refl e13 ⟨rfl, rfl⟩
      refine Or.inr ⟨q, q2, vx_fr_trans (vx_fr_trans (vx_fr_mono F6 (fun a k q => by omega)) (vx_fr_mono F8 (fun a k q => by omega))) (vx_fr_mono F13 (fun a k q => by omega)), by rw [e13, vx_J_eq (by decide)], by rw [vx_fr_J F13 (by omega)]; exact j9, rfl, cnt, rr, cm, o, vm_M_fr m1 F13 (fun a k q => by omega), m2, m3, m4, m5, fun j hj => (vx_fr_J F13 (by omega)).trans (m6 j hj)⟩
    · exact absurd t r0
end
