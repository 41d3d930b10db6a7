/-! Printed by my own program (wip/whole/gen_calls.py): the words of methods and calls, by their places in the tables -/
def ve_wok (r : ve_E) : Prop := r.1.name = "law" ∨ ve_word r ∈ tables_1
theorem ve_wq0 : ∀ r ∈ ve_q0, ve_wok r := List.forall_mem_cons.mpr ⟨Or.inr ve_w0, List.forall_mem_cons.mpr ⟨Or.inr ve_w1, List.forall_mem_cons.mpr ⟨Or.inr ve_w2, List.forall_mem_cons.mpr ⟨Or.inr ve_w3, List.forall_mem_cons.mpr ⟨Or.inr ve_w4, List.forall_mem_cons.mpr ⟨Or.inr ve_w5, List.forall_mem_cons.mpr ⟨Or.inr ve_w6, List.forall_mem_cons.mpr ⟨Or.inr ve_w7, List.forall_mem_cons.mpr ⟨Or.inr ve_w8, List.forall_mem_cons.mpr ⟨Or.inr ve_w9, List.forall_mem_cons.mpr ⟨Or.inr ve_w10, List.forall_mem_cons.mpr ⟨Or.inr ve_w11, List.forall_mem_cons.mpr ⟨Or.inr ve_w12, List.forall_mem_cons.mpr ⟨Or.inr ve_w13, List.forall_mem_cons.mpr ⟨Or.inr ve_w14, List.forall_mem_cons.mpr ⟨Or.inr ve_w15, fun _ h => absurd h List.not_mem_nil⟩⟩⟩⟩⟩⟩⟩⟩⟩⟩⟩⟩⟩⟩⟩⟩
theorem ve_wq1 : ∀ r ∈ ve_q1, ve_wok r := List.forall_mem_cons.mpr ⟨Or.inr ve_w16, List.forall_mem_cons.mpr ⟨Or.inr ve_w17, List.forall_mem_cons.mpr ⟨Or.inr ve_w18, List.forall_mem_cons.mpr ⟨Or.inr ve_w19, List.forall_mem_cons.mpr ⟨Or.inr ve_w20, List.forall_mem_cons.mpr ⟨Or.inr ve_w21, List.forall_mem_cons.mpr ⟨Or.inr ve_w22, List.forall_mem_cons.mpr ⟨Or.inr ve_w23, List.forall_mem_cons.mpr ⟨Or.inr ve_w24, List.forall_mem_cons.mpr ⟨Or.inr ve_w25, List.forall_mem_cons.mpr ⟨Or.inr ve_w26, List.forall_mem_cons.mpr ⟨Or.inr ve_w27, List.forall_mem_cons.mpr ⟨Or.inr ve_w28, List.forall_mem_cons.mpr ⟨Or.inr ve_w29, List.forall_mem_cons.mpr ⟨Or.inr ve_w30, List.forall_mem_cons.mpr ⟨Or.inr ve_w31, fun _ h => absurd h List.not_mem_nil⟩⟩⟩⟩⟩⟩⟩⟩⟩⟩⟩⟩⟩⟩⟩⟩
theorem ve_wq2 : ∀ r ∈ ve_q2, ve_wok r := List.forall_mem_cons.mpr ⟨Or.inr ve_w32, List.forall_mem_cons.mpr ⟨Or.inr ve_w33, List.forall_mem_cons.mpr ⟨Or.inr ve_w34, List.forall_mem_cons.mpr ⟨Or.inr ve_w35, List.forall_mem_cons.mpr ⟨Or.inr ve_w36, List.forall_mem_cons.mpr ⟨Or.inr ve_w37, List.forall_mem_cons.mpr ⟨Or.inr ve_w38, List.forall_mem_cons.mpr ⟨Or.inr ve_w39, List.forall_mem_cons.mpr ⟨Or.inr ve_w40, List.forall_mem_cons.mpr ⟨Or.inr ve_w41, List.forall_mem_cons.mpr ⟨Or.inr ve_w42, List.forall_mem_cons.mpr ⟨Or.inr ve_w43, List.forall_mem_cons.mpr ⟨Or.inr ve_w44, List.forall_mem_cons.mpr ⟨Or.inr ve_w45, List.forall_mem_cons.mpr ⟨Or.inr ve_w46, List.forall_mem_cons.mpr ⟨Or.inr ve_w47, fun _ h => absurd h List.not_mem_nil⟩⟩⟩⟩⟩⟩⟩⟩⟩⟩⟩⟩⟩⟩⟩⟩
theorem ve_wq3 : ∀ r ∈ ve_q3, ve_wok r := List.forall_mem_cons.mpr ⟨Or.inr ve_w48, List.forall_mem_cons.mpr ⟨Or.inr ve_w49, List.forall_mem_cons.mpr ⟨Or.inr ve_w50, List.forall_mem_cons.mpr ⟨Or.inr ve_w51, List.forall_mem_cons.mpr ⟨Or.inr ve_w52, List.forall_mem_cons.mpr ⟨Or.inr ve_w53, List.forall_mem_cons.mpr ⟨Or.inr ve_w54, List.forall_mem_cons.mpr ⟨Or.inr ve_w55, List.forall_mem_cons.mpr ⟨Or.inr ve_w56, List.forall_mem_cons.mpr ⟨Or.inr ve_w57, List.forall_mem_cons.mpr ⟨Or.inr ve_w58, List.forall_mem_cons.mpr ⟨Or.inr ve_w59, List.forall_mem_cons.mpr ⟨Or.inr ve_w60, List.forall_mem_cons.mpr ⟨Or.inr ve_w61, List.forall_mem_cons.mpr ⟨Or.inr ve_w62, List.forall_mem_cons.mpr ⟨Or.inr ve_w63, fun _ h => absurd h List.not_mem_nil⟩⟩⟩⟩⟩⟩⟩⟩⟩⟩⟩⟩⟩⟩⟩⟩
theorem ve_wq4 : ∀ r ∈ ve_q4, ve_wok r := List.forall_mem_cons.mpr ⟨Or.inr ve_w64, List.forall_mem_cons.mpr ⟨Or.inr ve_w65, List.forall_mem_cons.mpr ⟨Or.inr ve_w66, List.forall_mem_cons.mpr ⟨Or.inr ve_w67, List.forall_mem_cons.mpr ⟨Or.inr ve_w68, List.forall_mem_cons.mpr ⟨Or.inr ve_w69, List.forall_mem_cons.mpr ⟨Or.inr ve_w70, List.forall_mem_cons.mpr ⟨Or.inr ve_w71, List.forall_mem_cons.mpr ⟨Or.inr ve_w72, List.forall_mem_cons.mpr ⟨Or.inr ve_w73, List.forall_mem_cons.mpr ⟨Or.inr ve_w74, List.forall_mem_cons.mpr ⟨Or.inr ve_w75, List.forall_mem_cons.mpr ⟨Or.inr ve_w76, List.forall_mem_cons.mpr ⟨Or.inr ve_w77, List.forall_mem_cons.mpr ⟨Or.inr ve_w78, List.forall_mem_cons.mpr ⟨Or.inr ve_w79, fun _ h => absurd h List.not_mem_nil⟩⟩⟩⟩⟩⟩⟩⟩⟩⟩⟩⟩⟩⟩⟩⟩
theorem ve_wq5 : ∀ r ∈ ve_q5, ve_wok r := List.forall_mem_cons.mpr ⟨Or.inr ve_w80, List.forall_mem_cons.mpr ⟨Or.inr ve_w81, List.forall_mem_cons.mpr ⟨Or.inr ve_w82, List.forall_mem_cons.mpr ⟨Or.inr ve_w83, List.forall_mem_cons.mpr ⟨Or.inr ve_w84, List.forall_mem_cons.mpr ⟨Or.inr ve_w85, List.forall_mem_cons.mpr ⟨Or.inr ve_w86, List.forall_mem_cons.mpr ⟨Or.inr ve_w87, List.forall_mem_cons.mpr ⟨Or.inr ve_w88, List.forall_mem_cons.mpr ⟨Or.inr ve_w89, List.forall_mem_cons.mpr ⟨Or.inr ve_w90, List.forall_mem_cons.mpr ⟨Or.inr ve_w91, List.forall_mem_cons.mpr ⟨Or.inr ve_w92, List.forall_mem_cons.mpr ⟨Or.inr ve_w93, List.forall_mem_cons.mpr ⟨Or.inr ve_w94, List.forall_mem_cons.mpr ⟨Or.inr ve_w95, fun _ h => absurd h List.not_mem_nil⟩⟩⟩⟩⟩⟩⟩⟩⟩⟩⟩⟩⟩⟩⟩⟩
theorem ve_wq6 : ∀ r ∈ ve_q6, ve_wok r := List.forall_mem_cons.mpr ⟨Or.inr ve_w96, List.forall_mem_cons.mpr ⟨Or.inr ve_w97, List.forall_mem_cons.mpr ⟨Or.inr ve_w98, List.forall_mem_cons.mpr ⟨Or.inr ve_w99, List.forall_mem_cons.mpr ⟨Or.inr ve_w100, List.forall_mem_cons.mpr ⟨Or.inr ve_w101, List.forall_mem_cons.mpr ⟨Or.inr ve_w102, List.forall_mem_cons.mpr ⟨Or.inr ve_w103, List.forall_mem_cons.mpr ⟨Or.inr ve_w104, List.forall_mem_cons.mpr ⟨Or.inr ve_w105, List.forall_mem_cons.mpr ⟨Or.inr ve_w106, List.forall_mem_cons.mpr ⟨Or.inr ve_w107, List.forall_mem_cons.mpr ⟨Or.inr ve_w108, List.forall_mem_cons.mpr ⟨Or.inr ve_w109, List.forall_mem_cons.mpr ⟨Or.inr ve_w110, List.forall_mem_cons.mpr ⟨Or.inr ve_w111, fun _ h => absurd h List.not_mem_nil⟩⟩⟩⟩⟩⟩⟩⟩⟩⟩⟩⟩⟩⟩⟩⟩
theorem ve_wq7 : ∀ r ∈ ve_q7, ve_wok r := List.forall_mem_cons.mpr ⟨Or.inr ve_w112, List.forall_mem_cons.mpr ⟨Or.inr ve_w113, List.forall_mem_cons.mpr ⟨Or.inr ve_w114, List.forall_mem_cons.mpr ⟨Or.inr ve_w115, List.forall_mem_cons.mpr ⟨Or.inr ve_w116, List.forall_mem_cons.mpr ⟨Or.inr ve_w117, List.forall_mem_cons.mpr ⟨Or.inr ve_w118, List.forall_mem_cons.mpr ⟨Or.inr ve_w119, List.forall_mem_cons.mpr ⟨Or.inr ve_w120, List.forall_mem_cons.mpr ⟨Or.inr ve_w121, List.forall_mem_cons.mpr ⟨Or.inr ve_w122, List.forall_mem_cons.mpr ⟨Or.inr ve_w123, List.forall_mem_cons.mpr ⟨Or.inr ve_w124, List.forall_mem_cons.mpr ⟨Or.inr ve_w125, List.forall_mem_cons.mpr ⟨Or.inr ve_w126, List.forall_mem_cons.mpr ⟨Or.inr ve_w127, fun _ h => absurd h List.not_mem_nil⟩⟩⟩⟩⟩⟩⟩⟩⟩⟩⟩⟩⟩⟩⟩⟩
theorem ve_wq8 : ∀ r ∈ ve_q8, ve_wok r := List.forall_mem_cons.mpr ⟨Or.inr ve_w128, List.forall_mem_cons.mpr ⟨Or.inr ve_w129, List.forall_mem_cons.mpr ⟨Or.inr ve_w130, List.forall_mem_cons.mpr ⟨Or.inr ve_w131, List.forall_mem_cons.mpr ⟨Or.inr ve_w132, List.forall_mem_cons.mpr ⟨Or.inr ve_w133, List.forall_mem_cons.mpr ⟨Or.inr ve_w134, List.forall_mem_cons.mpr ⟨Or.inr ve_w135, List.forall_mem_cons.mpr ⟨Or.inr ve_w136, List.forall_mem_cons.mpr ⟨Or.inr ve_w137, List.forall_mem_cons.mpr ⟨Or.inr ve_w138, List.forall_mem_cons.mpr ⟨Or.inr ve_w139, List.forall_mem_cons.mpr ⟨Or.inr ve_w140, List.forall_mem_cons.mpr ⟨Or.inr ve_w141, List.forall_mem_cons.mpr ⟨Or.inr ve_w142, List.forall_mem_cons.mpr ⟨Or.inr ve_w143, fun _ h => absurd h List.not_mem_nil⟩⟩⟩⟩⟩⟩⟩⟩⟩⟩⟩⟩⟩⟩⟩⟩
theorem ve_wq9 : ∀ r ∈ ve_q9, ve_wok r := List.forall_mem_cons.mpr ⟨Or.inr ve_w144, List.forall_mem_cons.mpr ⟨Or.inr ve_w145, List.forall_mem_cons.mpr ⟨Or.inr ve_w146, List.forall_mem_cons.mpr ⟨Or.inr ve_w147, List.forall_mem_cons.mpr ⟨Or.inr ve_w148, List.forall_mem_cons.mpr ⟨Or.inr ve_w149, List.forall_mem_cons.mpr ⟨Or.inr ve_w150, List.forall_mem_cons.mpr ⟨Or.inr ve_w151, List.forall_mem_cons.mpr ⟨Or.inr ve_w152, List.forall_mem_cons.mpr ⟨Or.inr ve_w153, List.forall_mem_cons.mpr ⟨Or.inr ve_w154, List.forall_mem_cons.mpr ⟨Or.inr ve_w155, List.forall_mem_cons.mpr ⟨Or.inr ve_w156, List.forall_mem_cons.mpr ⟨Or.inr ve_w157, List.forall_mem_cons.mpr ⟨Or.inr ve_w158, List.forall_mem_cons.mpr ⟨Or.inr ve_w159, fun _ h => absurd h List.not_mem_nil⟩⟩⟩⟩⟩⟩⟩⟩⟩⟩⟩⟩⟩⟩⟩⟩
theorem ve_wq10 : ∀ r ∈ ve_q10, ve_wok r := List.forall_mem_cons.mpr ⟨Or.inr ve_w160, List.forall_mem_cons.mpr ⟨Or.inr ve_w161, List.forall_mem_cons.mpr ⟨Or.inr ve_w162, List.forall_mem_cons.mpr ⟨Or.inr ve_w163, List.forall_mem_cons.mpr ⟨Or.inr ve_w164, List.forall_mem_cons.mpr ⟨Or.inr ve_w165, List.forall_mem_cons.mpr ⟨Or.inr ve_w166, List.forall_mem_cons.mpr ⟨Or.inr ve_w167, List.forall_mem_cons.mpr ⟨Or.inr ve_w168, List.forall_mem_cons.mpr ⟨Or.inr ve_w169, List.forall_mem_cons.mpr ⟨Or.inr ve_w170, List.forall_mem_cons.mpr ⟨Or.inr ve_w171, List.forall_mem_cons.mpr ⟨Or.inr ve_w172, List.forall_mem_cons.mpr ⟨Or.inr ve_w173, List.forall_mem_cons.mpr ⟨Or.inr ve_w174, List.forall_mem_cons.mpr ⟨Or.inr ve_w175, fun _ h => absurd h List.not_mem_nil⟩⟩⟩⟩⟩⟩⟩⟩⟩⟩⟩⟩⟩⟩⟩⟩
theorem ve_wq11 : ∀ r ∈ ve_q11, ve_wok r := List.forall_mem_cons.mpr ⟨Or.inr ve_w176, List.forall_mem_cons.mpr ⟨Or.inr ve_w177, List.forall_mem_cons.mpr ⟨Or.inr ve_w178, List.forall_mem_cons.mpr ⟨Or.inr ve_w179, List.forall_mem_cons.mpr ⟨Or.inr ve_w180, List.forall_mem_cons.mpr ⟨Or.inr ve_w181, List.forall_mem_cons.mpr ⟨Or.inr ve_w182, List.forall_mem_cons.mpr ⟨Or.inr ve_w183, List.forall_mem_cons.mpr ⟨Or.inr ve_w184, List.forall_mem_cons.mpr ⟨Or.inr ve_w185, List.forall_mem_cons.mpr ⟨Or.inr ve_w186, List.forall_mem_cons.mpr ⟨Or.inr ve_w187, List.forall_mem_cons.mpr ⟨Or.inr ve_w188, List.forall_mem_cons.mpr ⟨Or.inr ve_w189, List.forall_mem_cons.mpr ⟨Or.inr ve_w190, List.forall_mem_cons.mpr ⟨Or.inr ve_w191, fun _ h => absurd h List.not_mem_nil⟩⟩⟩⟩⟩⟩⟩⟩⟩⟩⟩⟩⟩⟩⟩⟩
theorem ve_wq12 : ∀ r ∈ ve_q12, ve_wok r := List.forall_mem_cons.mpr ⟨Or.inr ve_w192, List.forall_mem_cons.mpr ⟨Or.inr ve_w193, List.forall_mem_cons.mpr ⟨Or.inr ve_w194, List.forall_mem_cons.mpr ⟨Or.inr ve_w195, List.forall_mem_cons.mpr ⟨Or.inr ve_w196, List.forall_mem_cons.mpr ⟨Or.inr ve_w197, List.forall_mem_cons.mpr ⟨Or.inr ve_w198, List.forall_mem_cons.mpr ⟨Or.inr ve_w199, List.forall_mem_cons.mpr ⟨Or.inr ve_w200, List.forall_mem_cons.mpr ⟨Or.inr ve_w201, List.forall_mem_cons.mpr ⟨Or.inr ve_w202, List.forall_mem_cons.mpr ⟨Or.inr ve_w203, List.forall_mem_cons.mpr ⟨Or.inr ve_w204, List.forall_mem_cons.mpr ⟨Or.inr ve_w205, List.forall_mem_cons.mpr ⟨Or.inr ve_w206, List.forall_mem_cons.mpr ⟨Or.inr ve_w207, fun _ h => absurd h List.not_mem_nil⟩⟩⟩⟩⟩⟩⟩⟩⟩⟩⟩⟩⟩⟩⟩⟩
theorem ve_wq13 : ∀ r ∈ ve_q13, ve_wok r := List.forall_mem_cons.mpr ⟨Or.inr ve_w208, List.forall_mem_cons.mpr ⟨Or.inr ve_w209, List.forall_mem_cons.mpr ⟨Or.inr ve_w210, List.forall_mem_cons.mpr ⟨Or.inr ve_w211, List.forall_mem_cons.mpr ⟨Or.inr ve_w212, List.forall_mem_cons.mpr ⟨Or.inr ve_w213, List.forall_mem_cons.mpr ⟨Or.inr ve_w214, List.forall_mem_cons.mpr ⟨Or.inr ve_w215, List.forall_mem_cons.mpr ⟨Or.inl rfl, List.forall_mem_cons.mpr ⟨Or.inr ve_w217, List.forall_mem_cons.mpr ⟨Or.inr ve_w218, List.forall_mem_cons.mpr ⟨Or.inr ve_w219, List.forall_mem_cons.mpr ⟨Or.inr ve_w220, List.forall_mem_cons.mpr ⟨Or.inr ve_w221, fun _ h => absurd h List.not_mem_nil⟩⟩⟩⟩⟩⟩⟩⟩⟩⟩⟩⟩⟩⟩
theorem ve_wgs : ∀ g ∈ ve_gs, ∀ r ∈ g, ve_wok r := List.forall_mem_cons.mpr ⟨ve_wq0, List.forall_mem_cons.mpr ⟨ve_wq1, List.forall_mem_cons.mpr ⟨ve_wq2, List.forall_mem_cons.mpr ⟨ve_wq3, List.forall_mem_cons.mpr ⟨ve_wq4, List.forall_mem_cons.mpr ⟨ve_wq5, List.forall_mem_cons.mpr ⟨ve_wq6, List.forall_mem_cons.mpr ⟨ve_wq7, List.forall_mem_cons.mpr ⟨ve_wq8, List.forall_mem_cons.mpr ⟨ve_wq9, List.forall_mem_cons.mpr ⟨ve_wq10, List.forall_mem_cons.mpr ⟨ve_wq11, List.forall_mem_cons.mpr ⟨ve_wq12, List.forall_mem_cons.mpr ⟨ve_wq13, fun _ h => absurd h List.not_mem_nil⟩⟩⟩⟩⟩⟩⟩⟩⟩⟩⟩⟩⟩⟩
theorem ve_e_word {mi : Nat} (h : (ve_e mi).1.name ≠ "law") (h0 : (ve_e mi).1.name ≠ "") : ve_word (ve_e mi) ∈ tables_1 := by
  rcases ve_e_mem mi with ⟨g, hg, h1⟩ | h1
  · exact (ve_wgs g hg _ h1).resolve_left h
  · rw [h1] at h0
    exact absurd rfl h0
/-- what holds of each method of the table -/
def ve_eok (r : ve_E) : Bool := decide (r.1.cls = ve_nm r.2.2.2.2.1) && (decide (r.2.2.2.2.2.1 = true → r.1.name = "<init>") && (plainFor r.1 && (decide (r.1.cls ≠ "java/lang/invoke/MethodHandle") && (decide (r.1.cls ≠ "java/lang/invoke/VarHandle") && (Nat.ble r.2.2.1 30 && (Nat.ble 1 r.2.2.2.2.1 && Nat.ble r.2.2.2.2.1 15))))))
set_option maxRecDepth 100000 in
theorem ve_eoks : ve_gs.all (fun g => g.all ve_eok) = true := by decide +kernel
theorem ve_e_eok {mi : Nat} (h0 : (ve_e mi).1.name ≠ "") : ve_eok (ve_e mi) = true := by
  rcases ve_e_mem mi with ⟨g, hg, h1⟩ | h1
  · exact List.all_eq_true.mp (List.all_eq_true.mp ve_eoks g hg) _ h1
  · rw [h1] at h0
    exact absurd rfl h0
def ve_acn : MethodName := ⟨"java/lang/System", "arraycopy", "(Ljava/lang/Object;ILjava/lang/Object;II)V"⟩
/-- the words that a call needs -/
def ve_cws (own idx how cm : Nat) : List Cond := match how with
  | 0 => [.methodLink (ve_nm own) idx objectInit, .instanceMethod objectInit, .code objectInit ⟨#[0xb1]⟩ 1 none]
  | 1 => [.methodLink (ve_nm own) idx ⟨ve_nm cm, "<init>", "()V"⟩, .instanceMethod ⟨ve_nm cm, "<init>", "()V"⟩]
  | 2 => [.methodLink (ve_nm own) idx ve_acn, .native ve_acn, .static ve_acn, .initialized "java/lang/System"]
  | 3 => [.methodLink (ve_nm own) idx (ve_yy cm), .instanceMethod (ve_yy cm), .selects (ve_yy cm).cls (ve_yy cm) (ve_yy cm), .initialized (ve_yy cm).cls]
  | 4 => [.methodLink (ve_nm own) idx (ve_yy cm), .static (ve_yy cm), .initialized (ve_yy cm).cls]
  | 5 => [.methodLink (ve_nm own) idx (ve_yy cm), .instanceMethod (ve_yy cm), .initialized (ve_yy cm).cls]
  | 14 => [.methodLinkNest (ve_nm own) idx (ve_yy cm) "RuleHouse", .static (ve_yy cm), .initialized (ve_yy cm).cls]
  | 15 => [.methodLinkNest (ve_nm own) idx (ve_yy cm) "RuleHouse", .instanceMethod (ve_yy cm), .initialized (ve_yy cm).cls]
  | _ => []

/-- calls with the places of their words -/
def ve_cw : Nat → List ((Nat × Nat × Nat × Nat) × List Nat)
  | 1 => [((3, 0, 0, 1), [91, 92, 93]), ((11, 15, 191, 1), [96, 97, 69]), ((18, 5, 144, 2), [127, 128, 70]), ((27, 5, 104, 1), [260, 261, 72]), ((34, 5, 134, 1), [377, 378, 76]), ((44, 5, 171, 2), [431, 273, 74]), ((58, 3, 192, 3), [476, 477, 478, 69]), ((62, 3, 145, 2), [518, 519, 520, 70]), ((66, 3, 12, 1), [767, 769, 1, 68]), ((74, 1, 10, 1), [816, 817]), ((78, 3, 193, 1), [771, 772, 773, 69]), ((84, 3, 146, 2), [846, 847, 848, 70]), ((94, 3, 173, 2), [854, 855, 856, 74]), ((103, 1, 11, 1), [867, 868]), ((104, 3, 174, 2), [873, 673, 674, 74]), ((107, 3, 175, 2), [874, 875, 876, 74]), ((113, 3, 105, 2), [885, 886, 887, 72]), ((126, 3, 147, 2), [1012, 1013, 1014, 70]), ((136, 3, 108, 4), [1016, 1017, 1018, 72]), ((150, 1, 12, 1), [1037, 1038]), ((151, 3, 180, 3), [1043, 1044, 1045, 74]), ((155, 4, 14, 1), [1047, 1048, 68]), ((172, 3, 138, 2), [492, 493, 494, 76]), ((176, 3, 177, 2), [496, 497, 498, 74]), ((179, 3, 13, 2), [500, 502, 0, 68]), ((185, 4, 15, 1), [504, 505, 68]), ((189, 4, 16, 2), [507, 508, 68]), ((193, 3, 133, 2), [1058, 1059, 1060, 73])]
  | 2 => [((3, 0, 0, 1), [99, 92, 93]), ((33, 3, 195, 2), [530, 531, 532, 69]), ((37, 3, 202, 4), [551, 552, 553, 69]), ((41, 4, 206, 1), [534, 535, 69]), ((45, 3, 196, 3), [537, 538, 539, 69]), ((49, 3, 198, 2), [547, 548, 549, 69]), ((52, 3, 199, 3), [555, 556, 557, 69]), ((56, 4, 207, 1), [544, 545, 69]), ((59, 3, 200, 4), [559, 560, 561, 69]), ((63, 4, 208, 1), [541, 542, 69]), ((66, 3, 197, 2), [573, 574, 575, 69]), ((69, 3, 201, 3), [577, 578, 579, 69]), ((72, 4, 204, 2), [582, 583, 69]), ((75, 4, 205, 1), [585, 586, 69]), ((78, 4, 203, 1), [565, 566, 69])]
  | 3 => [((3, 0, 0, 1), [130, 92, 93]), ((11, 15, 181, 1), [133, 134, 71]), ((39, 3, 148, 3), [522, 523, 524, 70]), ((43, 3, 135, 1), [588, 589, 590, 76]), ((48, 3, 162, 1), [593, 594, 595, 70]), ((52, 3, 150, 1), [597, 598, 599, 70]), ((60, 3, 139, 1), [739, 740, 741, 76]), ((63, 3, 140, 1), [748, 749, 750, 76]), ((66, 3, 167, 3), [661, 662, 663, 70]), ((70, 3, 142, 1), [756, 757, 758, 76]), ((73, 3, 149, 2), [601, 602, 603, 70]), ((77, 3, 157, 2), [613, 614, 615, 70]), ((81, 3, 165, 2), [629, 630, 631, 70]), ((84, 3, 151, 1), [668, 669, 670, 70]), ((87, 3, 152, 1), [850, 851, 852, 70]), ((90, 3, 154, 1), [682, 683, 684, 70]), ((93, 3, 185, 1), [705, 706, 707, 71]), ((96, 3, 153, 2), [735, 736, 737, 70]), ((114, 3, 194, 1), [526, 527, 528, 69]), ((119, 3, 182, 1), [605, 606, 607, 71]), ((126, 3, 163, 1), [609, 610, 611, 70]), ((138, 2, 0, 5), [665, 667, 666, 78]), ((144, 3, 164, 2), [633, 634, 635, 70]), ((151, 3, 174, 2), [672, 673, 674, 74]), ((157, 3, 166, 2), [617, 618, 619, 70]), ((169, 3, 155, 2), [686, 687, 688, 70]), ((174, 3, 183, 5), [690, 691, 692, 71]), ((180, 3, 156, 2), [695, 696, 697, 70]), ((186, 4, 218, 2), [637, 638, 75]), ((192, 3, 160, 3), [647, 648, 649, 70]), ((196, 4, 169, 1), [699, 700, 70]), ((199, 4, 170, 1), [702, 703, 70]), ((205, 3, 136, 2), [621, 622, 623, 76]), ((209, 3, 137, 2), [625, 626, 627, 76]), ((212, 4, 168, 1), [640, 641, 70]), ((215, 3, 159, 2), [643, 644, 645, 70]), ((218, 3, 158, 3), [657, 658, 659, 70]), ((227, 3, 161, 1), [651, 652, 653, 70])]
  | 4 => [((3, 0, 0, 1), [263, 92, 93]), ((11, 15, 130, 1), [266, 267, 73]), ((30, 5, 171, 2), [321, 273, 74]), ((40, 3, 131, 1), [322, 323, 324, 73]), ((60, 3, 106, 1), [889, 890, 891, 72]), ((79, 3, 107, 2), [903, 904, 905, 72]), ((83, 3, 178, 1), [997, 998, 999, 74]), ((95, 2, 0, 5), [893, 667, 666, 78]), ((101, 3, 113, 1), [894, 895, 896, 72]), ((133, 3, 109, 2), [907, 909, 3, 72]), ((136, 3, 172, 1), [992, 327, 328, 74]), ((137, 3, 117, 1), [993, 994, 995, 72]), ((143, 3, 110, 1), [911, 912, 913, 72]), ((147, 3, 112, 1), [926, 927, 928, 72]), ((153, 3, 121, 3), [952, 953, 954, 72]), ((157, 3, 120, 3), [966, 967, 968, 72]), ((164, 3, 122, 2), [956, 957, 958, 72]), ((168, 3, 118, 3), [988, 989, 990, 72]), ((177, 3, 119, 4), [960, 961, 962, 72]), ((184, 3, 111, 1), [915, 916, 917, 72]), ((187, 3, 173, 2), [925, 855, 856, 74]), ((197, 3, 127, 2), [919, 920, 921, 72]), ((201, 3, 174, 2), [898, 673, 674, 74]), ((204, 3, 114, 1), [930, 931, 932, 72]), ((207, 3, 132, 4), [899, 900, 901, 73]), ((214, 3, 115, 2), [934, 935, 936, 72]), ((217, 3, 116, 3), [942, 943, 944, 72]), ((221, 4, 129, 1), [938, 939, 72]), ((225, 4, 221, 2), [946, 947, 79]), ((230, 4, 220, 2), [949, 950, 79]), ((239, 14, 17, 1), [964, 713, 68]), ((246, 3, 123, 3), [970, 971, 972, 72]), ((249, 4, 128, 2), [981, 982, 72]), ((253, 3, 125, 4), [977, 978, 979, 72]), ((257, 3, 126, 2), [984, 985, 986, 72]), ((261, 4, 124, 3), [974, 975, 72])]
  | 5 => [((3, 0, 0, 1), [380, 92, 93]), ((33, 5, 171, 2), [384, 273, 74]), ((40, 15, 181, 1), [385, 134, 71]), ((48, 3, 172, 1), [592, 327, 328, 74]), ((54, 4, 217, 2), [743, 331, 75]), ((63, 3, 184, 2), [744, 745, 746, 71]), ((73, 3, 141, 3), [752, 753, 754, 76]), ((86, 3, 143, 2), [760, 761, 762, 76]), ((93, 4, 219, 2), [764, 765, 79])]
  | 6 => [((3, 0, 0, 1), [275, 92, 93]), ((29, 4, 217, 2), [330, 331, 75]), ((35, 3, 176, 3), [676, 677, 678, 74]), ((39, 2, 0, 5), [681, 667, 666, 78]), ((47, 3, 179, 3), [1001, 1002, 1003, 74])]
  | 7 => [((3, 0, 0, 1), [136, 92, 93]), ((54, 2, 0, 5), [694, 667, 666, 78]), ((60, 4, 190, 3), [709, 710, 71]), ((67, 3, 186, 3), [718, 719, 720, 71]), ((71, 3, 188, 3), [726, 727, 728, 71]), ((75, 3, 189, 2), [731, 732, 733, 71]), ((79, 3, 187, 3), [722, 723, 724, 71]), ((84, 14, 17, 1), [712, 713, 68])]
  | 8 => [((3, 0, 0, 1), [269, 92, 93]), ((11, 5, 171, 2), [272, 273, 74]), ((33, 3, 172, 1), [326, 327, 328, 74]), ((36, 4, 217, 2), [333, 331, 75])]
  | 9 => [((1, 0, 0, 1), [1074, 92, 93]), ((162, 4, 24, 1), [1351, 1352, 77]), ((166, 4, 25, 1), [1360, 1361, 77]), ((169, 4, 23, 1), [1338, 1339, 77]), ((175, 4, 28, 5), [1357, 1358, 77]), ((179, 3, 31, 2), [1334, 1336, 6, 77]), ((183, 3, 27, 5), [1347, 1349, 8, 77]), ((187, 3, 22, 2), [1341, 1343, 7, 77]), ((194, 4, 29, 1), [1354, 1355, 77]), ((198, 4, 26, 1), [1363, 1364, 77]), ((210, 3, 32, 2), [1386, 1388, 14, 77]), ((213, 3, 34, 2), [1398, 1400, 17, 77]), ((216, 3, 35, 2), [1394, 1396, 16, 77]), ((219, 3, 33, 1), [1382, 1384, 13, 77]), ((233, 3, 38, 1), [1402, 1404, 18, 77]), ((241, 3, 37, 3), [1415, 1417, 21, 77]), ((249, 3, 41, 2), [1378, 1380, 12, 77]), ((256, 3, 36, 2), [1390, 1392, 15, 77]), ((271, 3, 39, 1), [1406, 1408, 19, 77]), ((274, 3, 40, 5), [1411, 1413, 20, 77]), ((284, 3, 42, 3), [1374, 1376, 11, 77]), ((288, 3, 44, 3), [1439, 1441, 27, 77]), ((291, 3, 43, 1), [1443, 1445, 28, 77]), ((295, 3, 45, 1), [1435, 1437, 26, 77]), ((298, 3, 50, 2), [1451, 1453, 30, 77]), ((301, 3, 48, 3), [1455, 1457, 31, 77]), ((304, 3, 47, 3), [1459, 1461, 32, 77]), ((308, 3, 51, 2), [1370, 1372, 10, 77]), ((312, 3, 52, 1), [1419, 1421, 22, 77]), ((315, 3, 53, 1), [1423, 1425, 23, 77]), ((318, 3, 54, 1), [1427, 1429, 24, 77]), ((321, 3, 46, 1), [1431, 1433, 25, 77]), ((324, 3, 49, 1), [1447, 1449, 29, 77]), ((327, 3, 56, 2), [1471, 1473, 35, 77]), ((330, 3, 57, 1), [1467, 1469, 34, 77]), ((333, 3, 58, 3), [1475, 1477, 36, 77]), ((336, 3, 30, 1), [1330, 1332, 5, 77]), ((339, 3, 61, 1), [1326, 1328, 4, 77]), ((345, 3, 55, 1), [1366, 1368, 9, 77]), ((348, 3, 59, 1), [1463, 1465, 33, 77]), ((351, 3, 20, 2), [1479, 1481, 37, 77]), ((354, 3, 60, 1), [1483, 1485, 38, 77]), ((364, 4, 66, 1), [1542, 1543, 77]), ((367, 4, 65, 1), [1545, 1546, 77]), ((371, 3, 69, 3), [1535, 1537, 48, 77]), ((375, 4, 67, 2), [1539, 1540, 77]), ((382, 3, 68, 3), [1527, 1529, 46, 77]), ((385, 3, 72, 2), [1531, 1533, 47, 77]), ((388, 3, 73, 2), [1550, 1552, 49, 77]), ((391, 3, 74, 1), [1523, 1525, 45, 77]), ((394, 3, 75, 4), [1566, 1568, 53, 77]), ((401, 3, 70, 3), [1570, 1572, 54, 77]), ((407, 3, 80, 2), [1554, 1556, 50, 77]), ((410, 3, 77, 2), [1558, 1560, 51, 77]), ((413, 3, 76, 1), [1562, 1564, 52, 77]), ((416, 3, 81, 1), [1574, 1576, 55, 77]), ((419, 3, 78, 2), [1598, 1600, 61, 77]), ((425, 3, 71, 3), [1602, 1604, 62, 77]), ((431, 3, 85, 1), [1578, 1580, 56, 77]), ((434, 3, 86, 1), [1586, 1588, 58, 77]), ((437, 3, 92, 1), [1594, 1596, 60, 77]), ((440, 3, 83, 2), [1511, 1513, 42, 77]), ((446, 3, 82, 2), [1582, 1584, 57, 77]), ((450, 3, 84, 2), [1507, 1509, 41, 77]), ((456, 3, 87, 3), [1590, 1592, 59, 77]), ((459, 3, 79, 2), [1519, 1521, 44, 77]), ((462, 3, 88, 2), [1515, 1517, 43, 77]), ((468, 3, 89, 1), [1499, 1501, 39, 77]), ((471, 3, 90, 2), [1503, 1505, 40, 77]), ((486, 3, 93, 3), [1610, 1612, 63, 77]), ((489, 4, 98, 1), [1626, 1627, 77]), ((492, 3, 96, 2), [1629, 1631, 64, 77]), ((495, 3, 100, 3), [1641, 1643, 66, 77]), ((498, 3, 101, 3), [1637, 1639, 65, 77])]
  | 13 => [((7, 3, 2, 1), [514, 515, 516, 68]), ((15, 3, 3, 2), [842, 843, 844, 68]), ((21, 3, 5, 1), [881, 882, 883, 68]), ((24, 3, 6, 1), [1008, 1009, 1010, 68]), ((27, 3, 7, 3), [1024, 1025, 1026, 68]), ((33, 3, 10, 4), [1054, 1055, 1056, 68]), ((37, 3, 11, 3), [1065, 1066, 1067, 68]), ((41, 5, 0, 1), [88, 89, 68]), ((44, 5, 18, 1), [1071, 1072, 77]), ((47, 3, 1, 3), [472, 473, 474, 68]), ((51, 3, 21, 3), [1317, 1318, 1319, 77]), ((52, 4, 209, 2), [510, 511, 67]), ((57, 3, 62, 1), [1322, 1323, 1324, 77]), ((58, 3, 19, 1), [1313, 1314, 1315, 77]), ((61, 4, 210, 3), [838, 839, 67]), ((64, 3, 63, 2), [1487, 1488, 1489, 77]), ((65, 3, 4, 2), [480, 481, 482, 68]), ((69, 3, 64, 2), [1491, 1492, 1493, 77]), ((70, 4, 211, 2), [878, 879, 67]), ((72, 3, 91, 1), [1495, 1496, 1497, 77]), ((73, 4, 212, 2), [1005, 1006, 67]), ((75, 3, 94, 1), [1606, 1607, 1608, 77]), ((76, 4, 213, 4), [1020, 1021, 67]), ((79, 3, 95, 3), [1614, 1615, 1616, 77]), ((80, 3, 8, 2), [484, 485, 486, 68]), ((83, 3, 97, 2), [1618, 1619, 1620, 77]), ((84, 3, 9, 3), [488, 489, 490, 68]), ((87, 3, 99, 3), [1622, 1623, 1624, 77]), ((88, 4, 214, 5), [1051, 1052, 67]), ((91, 3, 102, 4), [1633, 1634, 1635, 77]), ((92, 4, 215, 4), [1062, 1063, 67]), ((94, 3, 103, 3), [1645, 1646, 1647, 77])]
  | _ => []
def ve_ckg (own : Nat) (q : (Nat × Nat × Nat × Nat) × List Nat) : Bool := decide (q.2.map (fun i => lw_tbl[i]?) = (ve_cws own q.1.1 q.1.2.1 q.1.2.2.1).map some) &&
  (Nat.blt q.1.2.1 3 || (decide ((ve_yy q.1.2.2.1).name ≠ "law") && (decide ((ve_yy q.1.2.2.1).name ≠ "") && (decide ((parseMethodDescriptor (ve_yy q.1.2.2.1).desc).map (fun d => d.parameters.length) = some (q.1.2.2.2 - (bif q.1.2.1.beq 4 || q.1.2.1.beq 14 then 0 else 1))) && (!(q.1.2.1.beq 5 || q.1.2.1.beq 15) || (decide ((ve_yy q.1.2.2.1).name = "<init>") && (decide (ve_rt q.1.2.2.1 = none) && (ve_hs q.1.2.2.1).isEmpty)))))))
set_option maxRecDepth 100000 in
theorem ve_ckg_1 : (ve_cw 1).all (ve_ckg 1) = true := by decide +kernel
theorem ve_cwm_1 : (ve_cw 1).map (fun q => q.1) = ve_co 1 := by decide +kernel
set_option maxRecDepth 100000 in
theorem ve_ckg_2 : (ve_cw 2).all (ve_ckg 2) = true := by decide +kernel
theorem ve_cwm_2 : (ve_cw 2).map (fun q => q.1) = ve_co 2 := by decide +kernel
set_option maxRecDepth 100000 in
theorem ve_ckg_3 : (ve_cw 3).all (ve_ckg 3) = true := by decide +kernel
theorem ve_cwm_3 : (ve_cw 3).map (fun q => q.1) = ve_co 3 := by decide +kernel
set_option maxRecDepth 100000 in
theorem ve_ckg_4 : (ve_cw 4).all (ve_ckg 4) = true := by decide +kernel
theorem ve_cwm_4 : (ve_cw 4).map (fun q => q.1) = ve_co 4 := by decide +kernel
set_option maxRecDepth 100000 in
theorem ve_ckg_5 : (ve_cw 5).all (ve_ckg 5) = true := by decide +kernel
theorem ve_cwm_5 : (ve_cw 5).map (fun q => q.1) = ve_co 5 := by decide +kernel
set_option maxRecDepth 100000 in
theorem ve_ckg_6 : (ve_cw 6).all (ve_ckg 6) = true := by decide +kernel
theorem ve_cwm_6 : (ve_cw 6).map (fun q => q.1) = ve_co 6 := by decide +kernel
set_option maxRecDepth 100000 in
theorem ve_ckg_7 : (ve_cw 7).all (ve_ckg 7) = true := by decide +kernel
theorem ve_cwm_7 : (ve_cw 7).map (fun q => q.1) = ve_co 7 := by decide +kernel
set_option maxRecDepth 100000 in
theorem ve_ckg_8 : (ve_cw 8).all (ve_ckg 8) = true := by decide +kernel
theorem ve_cwm_8 : (ve_cw 8).map (fun q => q.1) = ve_co 8 := by decide +kernel
set_option maxRecDepth 100000 in
theorem ve_ckg_9 : (ve_cw 9).all (ve_ckg 9) = true := by decide +kernel
theorem ve_cwm_9 : (ve_cw 9).map (fun q => q.1) = ve_co 9 := by decide +kernel
set_option maxRecDepth 100000 in
theorem ve_ckg_13 : (ve_cw 13).all (ve_ckg 13) = true := by decide +kernel
theorem ve_cwm_13 : (ve_cw 13).map (fun q => q.1) = ve_co 13 := by decide +kernel
theorem ve_ckg_in (own : Nat) : (ve_cw own).all (ve_ckg own) = true ∧ (ve_cw own).map (fun q => q.1) = ve_co own := by
  by_cases h1 : own = 1
  · subst h1; exact ⟨ve_ckg_1, ve_cwm_1⟩
  by_cases h2 : own = 2
  · subst h2; exact ⟨ve_ckg_2, ve_cwm_2⟩
  by_cases h3 : own = 3
  · subst h3; exact ⟨ve_ckg_3, ve_cwm_3⟩
  by_cases h4 : own = 4
  · subst h4; exact ⟨ve_ckg_4, ve_cwm_4⟩
  by_cases h5 : own = 5
  · subst h5; exact ⟨ve_ckg_5, ve_cwm_5⟩
  by_cases h6 : own = 6
  · subst h6; exact ⟨ve_ckg_6, ve_cwm_6⟩
  by_cases h7 : own = 7
  · subst h7; exact ⟨ve_ckg_7, ve_cwm_7⟩
  by_cases h8 : own = 8
  · subst h8; exact ⟨ve_ckg_8, ve_cwm_8⟩
  by_cases h9 : own = 9
  · subst h9; exact ⟨ve_ckg_9, ve_cwm_9⟩
  by_cases h13 : own = 13
  · subst h13; exact ⟨ve_ckg_13, ve_cwm_13⟩
  match own, h1, h2, h3, h4, h5, h6, h7, h8, h9, h13 with
  | 0, _, _, _, _, _, _, _, _, _, _ => exact ⟨rfl, rfl⟩
  | 1, q, _, _, _, _, _, _, _, _, _ => exact absurd rfl q
  | 2, _, q, _, _, _, _, _, _, _, _ => exact absurd rfl q
  | 3, _, _, q, _, _, _, _, _, _, _ => exact absurd rfl q
  | 4, _, _, _, q, _, _, _, _, _, _ => exact absurd rfl q
  | 5, _, _, _, _, q, _, _, _, _, _ => exact absurd rfl q
  | 6, _, _, _, _, _, q, _, _, _, _ => exact absurd rfl q
  | 7, _, _, _, _, _, _, q, _, _, _ => exact absurd rfl q
  | 8, _, _, _, _, _, _, _, q, _, _ => exact absurd rfl q
  | 9, _, _, _, _, _, _, _, _, q, _ => exact absurd rfl q
  | 10, _, _, _, _, _, _, _, _, _, _ => exact ⟨rfl, rfl⟩
  | 11, _, _, _, _, _, _, _, _, _, _ => exact ⟨rfl, rfl⟩
  | 12, _, _, _, _, _, _, _, _, _, _ => exact ⟨rfl, rfl⟩
  | 13, _, _, _, _, _, _, _, _, _, q => exact absurd rfl q
  | 14, _, _, _, _, _, _, _, _, _, _ => exact ⟨rfl, rfl⟩
  | 15, _, _, _, _, _, _, _, _, _, _ => exact ⟨rfl, rfl⟩
  | k + 16, _, _, _, _, _, _, _, _, _, _ => exact ⟨rfl, rfl⟩
theorem ve_ckg_at {own idx how cm np : Nat} (h : ve_as (ve_co own) idx = some (how, cm, np)) :
    (∀ w ∈ ve_cws own idx how cm, w ∈ lw_tbl) ∧ (3 ≤ how → (ve_yy cm).name ≠ "law" ∧ (ve_yy cm).name ≠ "" ∧ (parseMethodDescriptor (ve_yy cm).desc).map (fun d => d.parameters.length) = some (np - (bif how.beq 4 || how.beq 14 then 0 else 1)) ∧ ((how = 5 ∨ how = 15) → (ve_yy cm).name = "<init>" ∧ ve_rt cm = none ∧ ve_hs cm = [])) := by
  have h1 := ve_as_mem _ _ _ h
  obtain ⟨c1, c2⟩ := ve_ckg_in own
  rw [← c2] at h1
  obtain ⟨q, hq, he⟩ := List.mem_map.mp h1
  have h3 := List.all_eq_true.mp c1 q hq
  unfold ve_ckg at h3
  rw [he] at h3
  simp only [Bool.and_eq_true, Bool.or_eq_true, decide_eq_true_eq] at h3
  obtain ⟨a1, a2⟩ := h3
  refine ⟨fun w hw => ?_, fun h9 => ?_⟩
  · have h4 : some w ∈ q.2.map (fun i => lw_tbl[i]?) := by
      rw [a1]
      exact List.mem_map.mpr ⟨w, hw, rfl⟩
    obtain ⟨i, -, hi⟩ := List.mem_map.mp h4
    exact List.mem_of_getElem? hi
  · rcases a2 with a2 | a2
    · have := Nat.blt_eq.mp a2
      omega
    · refine ⟨a2.1, a2.2.1, a2.2.2.1, fun h8 => ?_⟩
      have h7 := a2.2.2.2
      rcases h8 with rfl | rfl <;> simpa using h7
