/-! A rule with a total gives groups: the class -/
def vm_fa (kd w : Int) : Int := if kd = 6 then 1 else if kd = 7 then (if w < 72057594037927936 then w else 0) else w
def vm_na (kd a w : Int) : Int := if kd = 6 then vx_w (a + 1) else if kd = 7 then (if w < 72057594037927936 then vx_w (a + w) else a) else if kd = 8 then min a w else max a w
def vm_o1 (kd : Int) : Option Int → Int → Option Int
  | none, w => some (vm_fa kd w)
  | some a, w => some (vm_na kd a w)
def vm_am (kd : Int) (ws : List Int) : Option Int := ws.foldl (vm_o1 kd) none
/-- a goal without its total -/
def vm_ky (R : vu_R) (kt : Nat) (u : Nat → Int) : Nat → Int := fun k => if k = kt + 1 then 0 else vm_gl R u k
def vm_ws (R : vu_R) (kt : Nat) (l : List (Nat → Int)) (f : Nat → Int) : List Int := (l.filter (fun u => decide (vr_eq 5 (vm_ky R kt u) f))).map (fun u => vm_gl R u (kt + 1))
def vm_XB (h0 : ve_H) (c0 : Nat) (r0 : Nat → Nat → Int) (m0 : Nat → Int) (R : vu_R) (kt : Nat) (l : List (Nat → Int)) (h : ve_H) : Prop := vx_fr vm_Wn h0 h ∧ vm_M h c0 r0 m0 ∧ vm_id h 25 c0 ∧ ∃ (gc : Nat) (gr : Nat → Nat → Int) (am : Nat → Int), vr_P 34 5 gc gr h ∧ gc ≤ 200 ∧ (∀ g, g < gc → vx_K h 38 g = am g ∧ vz_va (am g) ∧ vm_am R.2.2.1.1 (vm_ws R kt l (gr g)) = some (am g) ∧ ∃ u, u ∈ l ∧ vr_eq 5 (gr g) (vm_ky R kt u)) ∧ ∀ u, u ∈ l → ∃ g, g < gc ∧ vr_eq 5 (gr g) (vm_ky R kt u)
def vm_YB (h0 : ve_H) (c0 : Nat) (r0 : Nat → Nat → Int) (m0 : Nat → Int) (R : vu_R) (kt : Nat) (l : List (Nat → Int)) (h : ve_H) : Prop := vx_fr vm_Wn h0 h ∧ vm_M h c0 r0 m0 ∧ vm_id h 25 c0 ∧ ∃ gr, vr_P 34 5 201 gr h ∧ ∀ g, g < 201 → ∃ u, u ∈ l ∧ vr_eq 5 (gr g) (vm_ky R kt u)
def vm_ZB (n : Nat) (l : List (Nat → Int)) (u : Nat → Int) : Prop := ∃ w, w ∈ l ∧ ∀ i, i < n → w i = u i
section
variable {R : vu_R} {kt : Nat} {l : List (Nat → Int)} {f g : Nat → Int} {u : Nat → Int} {kd : Int}
theorem vm_ws_congr (e : vr_eq 5 f g) : vm_ws R kt l f = vm_ws R kt l g := by
  unfold vm_ws
  congr 1
  apply List.filter_congr
  intro u _
  apply (Bool.eq_iff_iff).mpr
  rw [decide_eq_true_iff, decide_eq_true_iff]
  exact ⟨fun q => vr_eq_trans q e, fun q => vr_eq_trans q (vr_eq_symm e)⟩
theorem vm_ws_in (e : vr_eq 5 (vm_ky R kt u) f) : vm_ws R kt (l ++ [u]) f = vm_ws R kt l f ++ [vm_gl R u (kt + 1)] := by
  unfold vm_ws
  rw [List.filter_append, List.map_append]
  congr 1
  rw [List.filter_cons, if_pos (decide_eq_true e)]
  rfl
theorem vm_ws_out (e : ¬ vr_eq 5 (vm_ky R kt u) f) : vm_ws R kt (l ++ [u]) f = vm_ws R kt l f := by
  unfold vm_ws
  rw [List.filter_append, List.map_append, List.filter_cons, if_neg (by rw [decide_eq_true_iff]; exact e)]
  exact List.append_nil _
theorem vm_ws_nil (e : ∀ u, u ∈ l → ¬ vr_eq 5 (vm_ky R kt u) f) : vm_ws R kt l f = [] := by
  unfold vm_ws
  rw [List.filter_eq_nil_iff.mpr]
  · rfl
  · intro u hu t
    exact e u hu (of_decide_eq_true t)
theorem vm_am_snoc {ws : List Int} {w : Int} : vm_am kd (ws ++ [w]) = vm_o1 kd (vm_am kd ws) w := by
  unfold vm_am
  rw [List.foldl_append]
  rfl
theorem vm_fa_va {w : Int} (h : vz_va w) : vz_va (vm_fa kd w) := by
  unfold vm_fa
  split
  · exact vz_va_i (by decide)
  split
  · split
    · exact h
    · exact vz_va0
  · exact h
theorem vm_na_va {a w : Int} (ha : vz_va a) (h : vz_va w) : vz_va (vm_na kd a w) := by
  unfold vm_na
  split
  · exact vz_va_i (vx_w_r _)
  split
  · split
    · exact vz_va_i (vx_w_r _)
    · exact ha
  split
  · by_cases q : a ≤ w
    · rw [Int.min_eq_left q]; exact ha
    · rw [Int.min_eq_right (by omega)]; exact h
  · by_cases q : a ≤ w
    · rw [Int.max_eq_right q]; exact h
    · rw [Int.max_eq_left (by omega)]; exact ha
end
section
variable {d o : Nat} {R : vu_R} {h : ve_H} {x y : Int}
theorem vc_220 (hT : vx_T 1 625 h) (hx : vx_rL x) (hy : vx_rL y) : vx_CL d 220 [.long (vx_l x), .long (vx_l y)] h (fun r h1 => h1 = h ∧ r = max x y) :=
  vg_220 hT ⟨hx, hy, fun q => ⟨rfl, by omega⟩, fun q => ⟨rfl, by omega⟩⟩
theorem vc_221 (hT : vx_T 1 625 h) (hx : vx_rL x) (hy : vx_rL y) : vx_CL d 221 [.long (vx_l x), .long (vx_l y)] h (fun r h1 => h1 = h ∧ r = min x y) :=
  vg_221 hT ⟨hx, hy, fun q => ⟨rfl, by omega⟩, fun q => ⟨rfl, by omega⟩⟩
theorem vc_115 (hT : vx_T 1 625 h) (Q : vm_ru h o R) (hx : vx_rL x) : vx_CL (d + 1) 115 [.ref 21, .long (vx_l x)] h (fun r h1 => h1 = h ∧ r = vm_fa R.2.2.1.1 x) := by
  refine vg_115 hT ⟨o, Q.1.1, Q.1.2.1, ?_⟩
  rw [Q.2.2.2.1.1]
  unfold vm_fa
  refine ⟨fun q => ⟨rfl, by rw [if_pos q]⟩, fun q => vx_CI_mono (vc_129 hT hx) ?_, fun q => ⟨hx, rfl, by rw [if_neg q.1, if_neg q.2.1]⟩⟩
  rintro r3 h3 _ ⟨rfl, c⟩ _
  rw [if_neg (by omega), if_pos q]
  exact ⟨fun q3 => ⟨rfl, by rw [if_neg (by omega)]⟩, fun q3 => ⟨hx, rfl, by rw [if_pos (by omega)]⟩⟩
theorem vc_116 (hT : vx_T 1 625 h) (Q : vm_ru h o R) (hx : vx_rL x) (hy : vx_rL y) (hk : 6 ≤ R.2.2.1.1 ∧ R.2.2.1.1 ≤ 9) : vx_CL (d + 1) 116 [.ref 21, .long (vx_l x), .long (vx_l y)] h (fun r h1 => h1 = h ∧ r = vm_na R.2.2.1.1 x y) := by
  refine vh_116 hT ⟨o, Q.1.1, Q.1.2.1, ?_⟩
  rw [Q.2.2.2.1.1]
  unfold vm_na
  refine ⟨fun q => ⟨rfl, by rw [if_pos q]⟩, fun q => vx_CI_mono (vc_129 hT hy) ?_, fun q => vx_CL_mono (vc_221 hT hx hy) ?_, fun q => vx_CL_mono (vc_220 hT hx hy) ?_⟩
  · rintro r4 h4 _ ⟨rfl, c⟩ _
    rw [if_neg (by omega), if_pos q]
    exact ⟨fun q3 => ⟨hx, rfl, by rw [if_neg (by omega)]⟩, fun q3 => ⟨rfl, by rw [if_pos (by omega)]⟩⟩
  · rintro r8 h8 _ ⟨rfl, c⟩ _
    exact ⟨rfl, by rw [if_neg (by omega), if_neg (by omega), if_pos q]; exact c⟩
  · rintro r9 h9 _ ⟨rfl, c⟩ _
    exact ⟨rfl, by rw [if_neg (by omega), if_neg (by omega), if_neg (by omega)]; exact c⟩
end
section
variable {d o pi : Nat} {R : vu_R} {σ : Nat → Nat} {b : Nat → Int} {st : Nat → Nat} {sN tn fr sd : Int} {c0 kt : Nat} {r0 : Nat → Nat → Int} {m0 : Nat → Int} {h h0 h1 : ve_H} {l : List (Nat → Int)} {u v : Nat → Int}
abbrev vm_Wb (a k : Nat) : Prop := a = 32 ∨ a = 38 ∨ (a = 34 ∧ k = 4) ∨ a = 35 ∨ a = 36 ∨ a = 37 ∨ (a = 21 ∧ k = 12)
theorem vm_ky_z : vm_ky R kt u (kt + 1) = 0 := if_pos rfl
theorem vm_ky_n {k : Nat} (q : k ≠ kt + 1) : vm_ky R kt u k = vm_gl R u k := if_neg q
theorem vm_XB_fr {S : Nat → Nat → Prop} (X : vm_XB h0 c0 r0 m0 R kt l h) (F : vx_fr S h h1) (hs : ∀ a k, S a k → a = 31 ∨ a = 32 ∨ a = 33) : vm_XB h0 c0 r0 m0 R kt l h1 := by
  obtain ⟨G, M, I, gc, gr, am, P, hc, q1, q2⟩ := X
  have n : ∀ a k, 23 ≤ a → a ≤ 30 ∨ 34 ≤ a → ¬ S a k := fun a k a1 a2 q => absurd (hs a k q) (by omega)
  exact ⟨vx_fr_trans G (vx_fr_mono F (fun a k q => by have := hs a k q; omega)), vm_M_fr M F (fun a k q => by have := hs a k q; omega), fun i hi => (vx_fr_J F (n 25 i (by omega) (by omega))).trans (I i hi), gc, gr, am, vm_P_fr vm_t34 P F (fun b k q => by have := hs b k q; omega), hc, fun g hg => ⟨(vx_fr_K F (n 38 g (by omega) (by omega))).trans (q1 g hg).1, (q1 g hg).2⟩, q2⟩
theorem vm_takeB {p : Nat} (hp : R.1 = p) (p16 : p < 16) (hO : 6 ≤ R.2.2.1.1 ∧ R.2.2.1.1 ≤ 9) (hkt : R.2.2.1.2.1 = kt) (kt4 : kt < 4) (ha : vz_aw R.2.2.2.1 false R.2.1) (ht : ∀ k, vz_tk (R.2.1 k)) (hT : vx_T 1 625 h) (Q : vm_ru h o R) (X : vm_XB h0 c0 r0 m0 R kt l h) (hv : ∀ v, v < R.2.2.2.1 → vz_va (u v)) (hg : ∀ k, k < 5 → vx_K h 32 k = vm_gl R u k) : vx_CV (d + 2) 114 [.ref 21] h (fun h1 => vx_fr vm_Wb h h1 ∧ ((vx_J h1 21 12 = vx_J h 21 12 ∨ vx_J h1 21 12 = 0) ∧ vm_XB h0 c0 r0 m0 R kt (l ++ [u]) h1 ∨ (vx_J h1 21 12 = 1 ∧ vm_YB h0 c0 r0 m0 R kt (l ++ [u]) h1))) := by
  obtain ⟨G, M, I, gc, gr, am, P, hc, q1, q2⟩ := X
  have kk := vm_K34
  have e3 : vx_J h o 3 = kt := (Q.2.2.2.1.2 (by omega)).1.trans hkt
  have gv := vm_gl_vr (u := u) hp p16 ha ht hv
  have wv : vz_va (vm_gl R u (kt + 1)) := gv.1.2 kt kt4
  have mem : u ∈ l ++ [u] := List.mem_append.mpr (Or.inr (List.mem_singleton.mpr rfl))
  refine vg_114 hT ⟨o, Q.1.1, Q.1.2.1, by omega, by omega, ?_⟩
  rw [e3, show ((kt : Int) + 1).toNat = kt + 1 by omega, hg (kt + 1) (by omega)]
  rintro h4 e4 hT4
  have F4 : vx_fr (fun a _ => a = 32) h h4 := vx_fr_sK vx_fr_refl e4 rfl
  have P4 : vr_P 34 5 gc gr h4 := vm_P_fr vm_t34 P F4 (fun b k q => by omega)
  have g4 : ∀ k, k < 5 → vx_K h4 32 k = vm_ky R kt u k := fun k hk => by
    rw [e4]
    by_cases q : k = kt + 1
    · rw [q, vx_K_eq (by decide), vm_ky_z]
    · rw [vx_K_ne (by omega), vm_ky_n q]; exact hg k hk
  have Q4 := vm_ru_fr Q F4 (fun a k q => by omega)
  refine vx_CI_mono (vc_173 (d := d) vm_o21.1 hT4 kk.1 P4 (by rw [vm_o21.2.2.1]; decide) g4) ?_
  rintro r5 h5 _ ⟨rfl, c5⟩ _
  refine ⟨fun q => ?_, fun q => ?_⟩
  · obtain ⟨g, hgc, e5, eg⟩ : ∃ g : Nat, g < gc ∧ r5 = g ∧ vr_eq 5 (gr g) (vm_ky R kt u) := by
      rcases c5 with t | ⟨t, _⟩
      · exact t
      · exact absurd t q
    rw [show r5.toNat = g by omega]
    have ag : vx_K h5 38 g = am g := (vx_fr_K F4 (by omega)).trans (q1 g hgc).1
    rw [ag]
    have ar := (vz_va_l (q1 g hgc).2.1).1
    refine ⟨by omega, vx_CL_mono (vc_116 (d := d) hT4 Q4 ar (vz_va_l wv).1 hO) ?_⟩
    rintro r8 h8 hr8 ⟨rfl, e8⟩ _
    refine ⟨by omega, ?_⟩
    rintro h10 e10 _
    have F10 : vx_fr (fun a _ => a = 38) h8 h10 := vx_fr_sK vx_fr_refl e10 rfl
    have FF : vx_fr (fun a _ => a = 32 ∨ a = 38) h h10 := vx_fr_trans (vx_fr_mono F4 (fun a k q => Or.inl q)) (vx_fr_mono F10 (fun a k q => Or.inr q))
    refine ⟨vx_fr_mono FF (fun a k q => by omega), Or.inl ⟨Or.inl (vx_fr_J FF (by omega)), vx_fr_trans G (vx_fr_mono FF (fun a k q => by omega)), vm_M_fr M FF (fun a k q => by omega), fun i hi => (vx_fr_J FF (by omega)).trans (I i hi), gc, gr, fun g' => if g' = g then r8 else am g', vr_P_fr P4 kk.1 F10 (fun b k q t => by have := kk.2; omega), hc, fun g' hg' => ?_, fun w hw => ?_⟩⟩
    · dsimp only
      by_cases qg : g' = g
      · subst qg
        rw [if_pos rfl]
        refine ⟨by rw [e10, vx_K_eq hr8], by rw [e8]; exact vm_na_va (q1 g' hgc).2.1 wv, ?_, u, mem, eg⟩
        rw [vm_ws_in (vr_eq_symm eg), vm_am_snoc, (q1 g' hgc).2.2.1, e8]
        rfl
      · rw [if_neg qg]
        have ne : ¬ vr_eq 5 (vm_ky R kt u) (gr g') := fun t => qg (P.2.2.2.2.2 g' g hg' hgc (vr_eq_trans (vr_eq_symm t) (vr_eq_symm eg)))
        have t := q1 g' hg'
        refine ⟨?_, t.2.1, by rw [vm_ws_out ne]; exact t.2.2.1, ?_⟩
        · rw [e10, vx_K_ne (by omega)]; exact (vx_fr_K F4 (by omega)).trans t.1
        · obtain ⟨w, w1, w2⟩ := t.2.2.2
          exact ⟨w, List.mem_append.mpr (Or.inl w1), w2⟩
    · rcases List.mem_append.mp hw with t | t
      · exact q2 w t
      · rw [List.mem_singleton.mp t]; exact ⟨g, hgc, eg⟩
  · have no : ∀ g, g < gc → ¬ vr_eq 5 (gr g) (vm_ky R kt u) := by
      rcases c5 with ⟨g, _, t, _⟩ | ⟨_, t⟩
      · omega
      · exact t
    refine vx_CI_mono (vc_174 (d := d) vm_o21.1 hT4 kk.1 P4 (by rw [vm_o21.2.2.1]; decide) g4) ?_
    rintro r11 h11 _ ⟨F11, q11⟩ hT11
    rcases q11 with ⟨_, _, t⟩ | ⟨f1, f2, f3, f4, f5, f6⟩
    · exfalso
      rcases t with ⟨g, g1, g2⟩ | t
      · exact no g g1 g2
      · omega
    have c11 : vx_J h11 34 4 = (gc : Int) + 1 := by have := f4.2.1; omega
    have wsn : vm_ws R kt l (vm_ky R kt u) = [] := vm_ws_nil (fun w hw t => by
      obtain ⟨g, g1, g2⟩ := q2 w hw
      exact no g g1 (vr_eq_trans g2 t))
    have fin : ∀ (z : Int) (h13 h17 : ve_H), (z = 0 ∨ z = 1) → (z = 0 ↔ gc + 1 ≤ 200) → h13 = vx_sJ h11 21 12 z → h17 = vx_sK h13 38 gc (vm_fa R.2.2.1.1 (vm_gl R u (kt + 1))) → vx_fr vm_Wb h h17 ∧ ((vx_J h17 21 12 = vx_J h 21 12 ∨ vx_J h17 21 12 = 0) ∧ vm_XB h0 c0 r0 m0 R kt (l ++ [u]) h17 ∨ (vx_J h17 21 12 = 1 ∧ vm_YB h0 c0 r0 m0 R kt (l ++ [u]) h17)) := by
      intro z h13 h17 hz hz2 e13 e17
      have F17 : vx_fr (fun a k => a = 38 ∨ (a = 21 ∧ k = 12)) h11 h17 := vx_fr_sK (vx_fr_sJ vx_fr_refl e13 (by omega)) e17 (by omega)
      have FF : vx_fr vm_Wb h h17 := vx_fr_trans (vx_fr_mono F4 (fun a k q => by omega)) (vx_fr_trans (vx_fr_mono F11 (fun a k q => by have := kk.2; omega)) (vx_fr_mono F17 (fun a k q => by omega)))
      have G17 : vx_fr vm_Wn h0 h17 := vx_fr_trans G (vx_fr_mono FF (fun a k q => by omega))
      have M17 : vm_M h17 c0 r0 m0 := vm_M_fr M FF (fun a k q => by omega)
      have I17 : vm_id h17 25 c0 := fun i hi => (vx_fr_J FF (by omega)).trans (I i hi)
      have P17 : vr_P 34 5 (gc + 1) (vr_ad gr gc (vm_ky R kt u)) h17 := vr_P_fr f4 kk.1 F17 (fun b k q t => by have := kk.2; omega)
      have j17 : vx_J h17 21 12 = z := by
        rw [e17, vx_J_sK, e13, vx_J_eq (by rcases hz with e | e <;> rw [e] <;> decide)]
      have kys : ∀ g, g < gc + 1 → ∃ w, w ∈ l ++ [u] ∧ vr_eq 5 (vr_ad gr gc (vm_ky R kt u) g) (vm_ky R kt w) := fun g hg => by
        by_cases qg : g = gc
        · rw [qg, vr_ad_eq]; exact ⟨u, mem, fun _ _ => rfl⟩
        · rw [vr_ad_lt (show g < gc by omega)]
          obtain ⟨w, w1, w2⟩ := (q1 g (by omega)).2.2.2
          exact ⟨w, List.mem_append.mpr (Or.inl w1), w2⟩
      refine ⟨FF, ?_⟩
      by_cases z0 : z = 0
      · refine Or.inl ⟨Or.inr (j17.trans z0), G17, M17, I17, gc + 1, _, fun g => if g = gc then vm_fa R.2.2.1.1 (vm_gl R u (kt + 1)) else am g, P17, hz2.mp z0, fun g hg => ?_, fun w hw => ?_⟩
        · dsimp only
          by_cases qg : g = gc
          · subst qg
            rw [if_pos rfl]
            refine ⟨by rw [e17, vx_K_eq (vz_va_l (vm_fa_va wv)).1], vm_fa_va wv, ?_, kys g hg⟩
            rw [vr_ad_eq, vm_ws_in (fun _ _ => rfl), wsn, vm_am_snoc]
            rfl
          · rw [if_neg qg]
            have hg' : g < gc := by omega
            have t := q1 g hg'
            refine ⟨?_, t.2.1, ?_, kys g hg⟩
            · rw [e17, vx_K_ne (by omega), e13, vx_K_sJ, vx_fr_K F11 (by have := kk.2; omega)]
              exact (vx_fr_K F4 (by omega)).trans t.1
            · rw [vr_ad_lt hg', vm_ws_out (fun t => no g hg' (vr_eq_symm t))]
              exact t.2.2.1
        · rcases List.mem_append.mp hw with t | t
          · obtain ⟨g, g1, g2⟩ := q2 w t
            exact ⟨g, by omega, by rw [vr_ad_lt g1]; exact g2⟩
          · rw [List.mem_singleton.mp t]
            exact ⟨gc, by omega, by rw [vr_ad_eq]; exact fun _ _ => rfl⟩
      · have e201 : gc + 1 = 201 := by
          have : ¬ gc + 1 ≤ 200 := fun t => z0 (hz2.mpr t)
          omega
        rw [e201] at P17 kys
        exact Or.inr ⟨by omega, G17, M17, I17, _, P17, kys⟩
    have F11b : vx_fr (vr_W 34) h5 h11 := F11
    have Q11 := vm_ru_fr Q4 F11b (fun a k q => by have := kk.2; omega)
    refine ⟨fun qc => ?_, fun qc => ?_⟩
    · rintro h13 e13 hT13
      refine ⟨fun t => absurd t (by omega), fun _ => ?_⟩
      have Q13 := vm_ru_fr Q11 (vx_fr_sJ (S := fun a k => a = 21 ∧ k = 12) vx_fr_refl e13 ⟨rfl, rfl⟩) (fun a k q => by omega)
      refine vx_CL_mono (vc_115 (d := d) hT13 Q13 (vz_va_l wv).1) ?_
      rintro r15 h15 _ ⟨rfl, e15⟩ _
      refine ⟨by omega, ?_⟩
      rintro h17 e17 _
      rw [e15, show r11.toNat = gc by omega] at e17
      exact fin 0 h15 h17 (Or.inl rfl) ⟨fun _ => by omega, fun _ => rfl⟩ e13 e17
    · rintro h18 e18 hT18
      refine ⟨fun t => absurd t (by omega), fun _ => ?_⟩
      have Q18 := vm_ru_fr Q11 (vx_fr_sJ (S := fun a k => a = 21 ∧ k = 12) vx_fr_refl e18 ⟨rfl, rfl⟩) (fun a k q => by omega)
      refine vx_CL_mono (vc_115 (d := d) hT18 Q18 (vz_va_l wv).1) ?_
      rintro r20 h20 _ ⟨rfl, e20⟩ _
      refine ⟨by omega, ?_⟩
      rintro h22 e22 _
      rw [e20, show r11.toNat = gc by omega] at e22
      exact fin 1 h20 h22 (Or.inr rfl) ⟨fun t => absurd t (by decide), fun t => by omega⟩ e18 e22
theorem vm_HB {p : Nat} (hp : R.1 = p) (p16 : p < 16) (hO : 6 ≤ R.2.2.1.1 ∧ R.2.2.1.1 ≤ 9) (hkt : R.2.2.1.2.1 = kt) (kt4 : kt < 4) (ha : vz_aw R.2.2.2.1 false R.2.1) (ht : ∀ k, vz_tk (R.2.1 k)) (hv0 : ∀ i, i < c0 → vm_vr (r0 i)) (hneg : ∀ j, j < R.2.2.2.2.1 → R.2.2.2.2.2.1 j = 15 → (st (R.2.2.2.2.2.2.1 j).toNat : Int) ≠ sN) (hσ : ∀ e, e < R.2.2.2.2.1 → σ e < R.2.2.2.2.1) (hsd : sd = 7) :
    vm_HY o pi 34 R σ b st sN tn fr sd (vm_PA c0 r0 m0 st sN tn fr R.2.2.2.2 σ) (vm_NA c0 r0) (vm_XB h0 c0 r0 m0 R kt) (vm_YB h0 c0 r0 m0 R kt) (vm_ZB R.2.2.2.1) := by
  have w5 : vm_gw R = 5 := if_neg (by omega)
  refine ⟨?_, ?_, ?_, ?_, ?_, ?_, ?_⟩
  · rintro l h h1 X F
    exact vm_XB_fr X F (fun a k q => by omega)
  · rintro l h h1 ⟨G, M, I, gr, P, q⟩ F
    exact ⟨vx_fr_trans G (vx_fr_mono F (fun a k q => by omega)), vm_M_fr M F (fun a k q => by omega), fun i hi => (vx_fr_J F (by omega)).trans (I i hi), gr, vm_P_fr vm_t34 P F (fun b k q => by omega), q⟩
  · rintro l l' u ⟨w, q1, q2⟩
    exact ⟨w, List.mem_append.mpr (Or.inl q1), q2⟩
  · rintro l h ⟨_, M, _⟩
    exact vm_bs_db M (vm_bs_st hv0) hneg hσ
  · rintro d l h hT C X j0 hv
    refine vg_112 hT (vx_CV_mono (vc_111 (d := d + 1) hT C.1) ?_)
    rintro h1 ⟨F1, hg⟩ hT1
    rw [w5] at hg
    have C1 := vm_cx_fr C F1 (fun a k q => vm_W2_W q)
    have o1 : vx_J h1 o 2 = R.2.2.1.1 := C1.1.2.2.2.1.1
    refine ⟨o, C1.1.1.1, C1.1.1.2.1, fun _ => ⟨fun _ => ?_, fun q => absurd q (by omega)⟩, fun q => absurd (C1.1.2.1.symm.trans q) (by omega)⟩
    refine vx_CV_mono (vm_takeB (d := d) (u := vm_hv h) hp p16 hO hkt kt4 ha ht hT1 C1.1 (vm_XB_fr X F1 (fun a k q => by omega)) hv hg) ?_
    rintro h5 ⟨F5, q⟩ _
    have FF : vx_fr vm_Wb h h5 := vx_fr_trans (vx_fr_mono F1 (fun a k q => by omega)) F5
    have j1 : vx_J h1 21 12 = 0 := (vx_fr_J F1 (by omega)).trans j0
    refine ⟨vx_fr_mono FF (fun a k q => by omega), vm_kp_fr FF (fun a k q => by omega), ?_⟩
    rcases q with ⟨q1, q2⟩ | ⟨q1, q2⟩
    · exact Or.inl ⟨by omega, q2⟩
    · exact Or.inr ⟨by omega, q2⟩
  · rintro d e l h hT C X j0 hs he
    have := C.1.1.2.2.2.1
    exfalso
    omega
  · intro l v u hvu
    exact ⟨v, List.mem_append.mpr (Or.inr (List.mem_singleton.mpr rfl)), hvu⟩
end
