/-! Reading literals: what comes out; the class's relations -/
abbrev vy_rel (k : Int) : Prop := k = 61 ∨ k = 11 ∨ k = 60 ∨ k = 12 ∨ k = 62 ∨ k = 13
abbrev vy_opn (k : Int) : Prop := k = 43 ∨ k = 45 ∨ k = 42 ∨ k = 47 ∨ k = 37
/-- a relation or what is reckoned: where it is refused, or the token behind it, the variables, kind, detail, terms -/
def vy_re (ts : vy_T) (i : Nat) (V : vy_V) : Int ⊕ (Nat × vy_V × Int × Int × (Nat → Int)) :=
  match vy_tm ts false i V with
  | .inl p => .inl p
  | .inr q => if vy_k ts i = 3 ∧ vy_k ts q.2.1 = 5 then
      (match vy_tm ts false (q.2.1 + 1) q.2.2 with
       | .inl p => .inl p
       | .inr u => if vy_opn (vy_k ts u.2.1) then
           (match vy_tm ts false (u.2.1 + 1) u.2.2 with
            | .inl p => .inl p
            | .inr w => .inr (w.2.1, w.2.2, 5, vy_k ts u.2.1, vy_set (vy_set (vy_set (fun _ => 0) 0 q.1) 1 u.1) 2 w.1))
         else .inl (vy_p ts u.2.1))
    else if vy_rel (vy_k ts q.2.1) then
      (match vy_tm ts false (q.2.1 + 1) q.2.2 with
       | .inl p => .inl p
       | .inr u => .inr (u.2.1, u.2.2, vy_k ts q.2.1, vy_k ts u.2.1, vy_set (vy_set (fun _ => 0) 0 q.1) 1 u.1))
    else .inl (vy_p ts q.2.1)
/-- literals: how many, kinds, details, places, terms -/
abbrev vy_L : Type := Nat × (Nat → Int) × (Nat → Int) × (Nat → Int) × (Nat → Nat → Int)
def vy_la (L : vy_L) (k e p : Int) (A : Nat → Int) : vy_L := (L.1 + 1, fun i => if i = L.1 then k else L.2.1 i, fun i => if i = L.1 then e else L.2.2.1 i, fun i => if i = L.1 then p else L.2.2.2.1 i, fun i => if i = L.1 then A else L.2.2.2.2 i)
def vy_cl (h : ve_H) (o : Nat) (L : vy_L) : Prop := vx_J h o 6 = L.1 ∧ L.1 ≤ 6 ∧ ∀ i, i < L.1 → vx_J h (vx_r o 8) i = L.2.1 i ∧ vx_J h (vx_r o 9) i = L.2.2.1 i ∧ vx_J h (vx_r o 10) i = L.2.2.2.1 i ∧ ∀ k, k < 4 → vx_K h (vx_r o 11) (i * 4 + k) = L.2.2.2.2 i k
section
variable {d i o : Nat} {h : ve_H} {ts : vy_T} {V : vy_V} {O : vy_O} {L : vy_L} {x y : Int}
theorem vy_cl_fr {h1 : ve_H} {S : Nat → Nat → Prop} (C : vy_cl h o L) (f : vx_fr S h h1) (hs : ¬ S o 6 ∧ ∀ k, ¬ S (vx_r o 8) k ∧ ¬ S (vx_r o 9) k ∧ ¬ S (vx_r o 10) k ∧ ¬ S (vx_r o 11) k) : vy_cl h1 o L := by
  obtain ⟨c1, c2, c3⟩ := C
  refine ⟨(vx_fr_J f hs.1).trans c1, c2, fun i hi => ?_⟩
  obtain ⟨a1, a2, a3, a4⟩ := c3 i hi
  refine ⟨(vx_fr_J f (hs.2 _).1).trans a1, (vx_fr_J f (hs.2 _).2.1).trans a2, (vx_fr_J f (hs.2 _).2.2.1).trans a3, fun k hk => (vx_fr_K f (hs.2 _).2.2.2).trans (a4 k hk)⟩
abbrev vy_Sl (o a k : Nat) : Prop := a = vx_r o 8 ∨ a = vx_r o 9 ∨ a = vx_r o 11 ∨ (a = o ∧ k = 6)
theorem vc_183 {k e p : Int} {A : Nat → Int} (hT : vx_T 1 625 h) (ho : vx_o 1 625 7 o) (C : vy_cl h o L) (hL : L.1 < 6) (hx : x = L.1) (hk : vx_rI k) (he : vx_rI e) (hp : vx_J h (vx_r o 10) L.1 = p) (hA : ∀ j, j < 4 → vx_K h 17 j = A j) : vx_CV d 183 [.ref o, .int (vx_i x), .int (vx_i k), .int (vx_i e), .ref 17] h (fun h1 => vx_fr (vy_Sl o) h h1 ∧ vy_cl h1 o (vy_la L k e p A)) := by
  have r := vx_ro ho
  obtain ⟨c1, c2, c3⟩ := C
  have z17 : vx_za 17 = 4 := by decide +kernel
  have ex : x.toNat = L.1 := by omega
  refine vg_183 ho (by decide +kernel) hT ?_
  rw [ex, z17]
  refine ⟨by omega, fun h2 e2 T2 => ⟨by omega, fun h4 e4 T4 => ⟨by omega, fun h5 e5 T5 h7 e7 T7 => ?_⟩⟩⟩
  have e4x : (x * 4).toNat = L.1 * 4 := by omega
  rw [e4x] at e5
  have j5 : ∀ b k, vx_J h5 b k = vx_J h4 b k := fun b k => by rw [e5, vx_J_cp]
  have F : vx_fr (vy_Sl o) h h7 := vx_fr_sJ (vx_fr_cp (vx_fr_sJ (vx_fr_sJ vx_fr_refl e2 (by omega)) e4 (by omega)) e5 (fun k _ _ => by omega)) e7 (by omega)
  refine ⟨F, by rw [e7, vx_J_eq (by omega), hx]; rfl, by show L.1 + 1 ≤ 6; omega, fun i hi => ?_⟩
  have hi : i < L.1 + 1 := hi
  show _ = (if i = L.1 then k else L.2.1 i) ∧ _ = (if i = L.1 then e else L.2.2.1 i) ∧ _ = (if i = L.1 then p else L.2.2.2.1 i) ∧ ∀ j, j < 4 → _ = (if i = L.1 then A else L.2.2.2.2 i) j
  rw [e7, vx_J_ne (by omega), vx_J_ne (by omega), vx_J_ne (by omega), j5, j5, j5, e4, vx_J_ne (by omega), vx_J_sJ he, vx_J_ne (by omega), e2, vx_J_sJ hk, vx_J_ne (by omega), vx_J_ne (by omega)]
  by_cases q : i = L.1
  · subst q
    rw [if_pos ⟨rfl, rfl⟩, if_pos rfl, if_pos ⟨rfl, rfl⟩, if_pos rfl, if_pos rfl, if_pos rfl]
    refine ⟨rfl, rfl, hp, fun j hj => ?_⟩
    rw [vx_K_sJ, e5, vx_K_cp, if_pos ⟨rfl, by omega, by omega⟩, e4, vx_K_sJ, e2, vx_K_sJ, show 0 + (L.1 * 4 + j - L.1 * 4) = j by omega]
    exact hA j hj
  · obtain ⟨a1, a2, a3, a4⟩ := c3 i (by omega)
    rw [if_neg (by omega), if_neg q, if_neg (by omega), if_neg q, if_neg q, if_neg q]
    refine ⟨a1, a2, a3, fun j hj => ?_⟩
    rw [vx_K_sJ, e5, vx_K_cp, if_neg (by omega), e4, vx_K_sJ, e2, vx_K_sJ]
    exact a4 j hj
theorem vc_169 (hT : vx_T 1 625 h) (hx : vx_rI x) : vx_CI d 169 [.int (vx_i x)] h (fun r h1 => h1 = h ∧ ((r = 1 ∧ vy_rel x) ∨ (r = 0 ∧ ¬ vy_rel x))) :=
  vg_169 hT ⟨hx, fun q => ⟨rfl, by omega⟩, fun q1 => ⟨fun q => ⟨rfl, by omega⟩, fun q2 => ⟨fun q => ⟨rfl, by omega⟩, fun q3 => ⟨fun q => ⟨rfl, by omega⟩, fun q4 => ⟨fun q => ⟨rfl, by omega⟩, fun q5 => ⟨fun q => ⟨rfl, by omega⟩, fun q => ⟨rfl, by omega⟩⟩⟩⟩⟩⟩⟩
theorem vc_170 (hT : vx_T 1 625 h) (hx : vx_rI x) : vx_CI d 170 [.int (vx_i x)] h (fun r h1 => h1 = h ∧ ((r = 1 ∧ vy_opn x) ∨ (r = 0 ∧ ¬ vy_opn x))) :=
  vg_170 hT ⟨hx, fun q => ⟨rfl, by omega⟩, fun q1 => ⟨fun q => ⟨rfl, by omega⟩, fun q2 => ⟨fun q => ⟨rfl, by omega⟩, fun q3 => ⟨fun q => ⟨rfl, by omega⟩, fun q4 => ⟨fun q => ⟨rfl, by omega⟩, fun q => ⟨rfl, by omega⟩⟩⟩⟩⟩⟩
end
