/-! ===== monotone: the step, the least fixed point, the calls ===== -/
theorem pI_mono {st : List Value} {K K' : Int32 → List Value → Prop} (h : ∀ x r, K x r → K' x r) : pI st K → pI st K' := by
  unfold pI; split <;> first | exact h _ _ | exact id
theorem pJ_mono {st : List Value} {K K' : Int64 → List Value → Prop} (h : ∀ x r, K x r → K' x r) : pJ st K → pJ st K' := by
  unfold pJ; split <;> first | exact h _ _ | exact id
theorem pD_mono {st : List Value} {K K' : UInt64 → List Value → Prop} (h : ∀ x r, K x r → K' x r) : pD st K → pD st K' := by
  unfold pD; split <;> first | exact h _ _ | exact id
theorem pR_mono {st : List Value} {K K' : Nat → List Value → Prop} (h : ∀ x r, K x r → K' x r) : pR st K → pR st K' := by
  unfold pR; split <;> first | exact h _ _ | exact id
theorem pV_mono {st : List Value} {K K' : Value → List Value → Prop} (h : ∀ x r, K x r → K' x r) : pV st K → pV st K' := by
  unfold pV; split <;> first | exact h _ _ | exact id
theorem lI_mono {L : Lc} {n : Nat} {K K' : Int32 → Prop} (h : ∀ x, K x → K' x) : lI L n K → lI L n K' := by
  unfold lI; split <;> first | exact h _ | exact id
theorem lJ_mono {L : Lc} {n : Nat} {K K' : Int64 → Prop} (h : ∀ x, K x → K' x) : lJ L n K → lJ L n K' := by
  unfold lJ; split <;> first | exact h _ | exact id
theorem lD_mono {L : Lc} {n : Nat} {K K' : UInt64 → Prop} (h : ∀ x, K x → K' x) : lD L n K → lD L n K' := by
  unfold lD; split <;> first | exact h _ | exact id
theorem lR_mono {L : Lc} {n : Nat} {K K' : Nat → Prop} (h : ∀ x, K x → K' x) : lR L n K → lR L n K' := by
  unfold lR; split <;> first | exact h _ | exact id
theorem hO_mono {g : Gp} {a : Nat} {K K' : Nat → List Value → Prop} (h : ∀ x y, K x y → K' x y) : hO g a K → hO g a K' := by
  unfold hO; split <;> first | exact h _ _ | exact id
theorem hA_mono {g : Gp} {a : Nat} {K K' : Nat → Nat → Prop} (h : ∀ x y, K x y → K' x y) : hA g a K → hA g a K' := by
  unfold hA; split <;> first | exact h _ _ | exact id
theorem hI_mono {g : Gp} {a : Nat} {K K' : Nat → Nat → (Nat → Int32) → Prop} (h : ∀ x y z, K x y z → K' x y z) : hI g a K → hI g a K' := by
  unfold hI; split <;> first | exact h _ _ _ | exact id
theorem hJ_mono {g : Gp} {a : Nat} {K K' : Nat → Nat → (Nat → Int64) → Prop} (h : ∀ x y z, K x y z → K' x y z) : hJ g a K → hJ g a K' := by
  unfold hJ; split <;> first | exact h _ _ _ | exact id
theorem hQ_mono {g : Gp} {a : Nat} {K K' : Nat → Nat → (Nat → Option Nat) → Prop} (h : ∀ x y z, K x y z → K' x y z) : hQ g a K → hQ g a K' := by
  unfold hQ; split <;> first | exact h _ _ _ | exact id
theorem ite_mono {b : Prop} [Decidable b] {x y x' y' : Prop} (h1 : x → x') (h2 : y → y') : (if b then x else y) → (if b then x' else y') := by
  split <;> assumption
theorem bI_mono {x : Int32} {o : ClassFile.Cond} {A B A' B' : Prop} (h1 : A → A') (h2 : B → B') : bI x o A B → bI x o A' B' := by
  cases o <;> simp only [bI] <;> split <;> assumption
theorem bC_mono {x y : Int32} {o : ClassFile.Cond} {A B A' B' : Prop} (h1 : A → A') (h2 : B → B') : bC x y o A B → bC x y o A' B' := by
  cases o <;> simp only [bC] <;> split <;> assumption
theorem or_mono {a b a' b' : Prop} (h1 : a → a') (h2 : b → b') : a ∨ b → a' ∨ b' := Or.imp h1 h2
def CLe (C C' : CT) : Prop := ∀ (y : Nat) (vs : List Value) (g : Gp) (R R' : Post), (∀ o g', R o g' → R' o g') → C y vs g R → C' y vs g R'
set_option maxHeartbeats 4000000 in
theorem st1_mono {C C' : CT} (hC : CLe C C') {k : Nat} {Q Q' : Post} (hQ : ∀ o g', Q o g' → Q' o g') {X Y : XT} (hX : ∀ pc L st u g, X pc L st u g → Y pc L st u g) {pc : Nat} {i : Instr} {n a b c : Nat} {L : Lc} {st : List Value} {u : Nat × Nat} {g : Gp} :
    st1 C k Q X pc i n a b c L st u g → st1 C' k Q' Y pc i n a b c L st u g := by
  cases i <;> simp only [st1]
  all_goals
    repeat first
      | exact id
      | exact hX _ _ _ _ _
      | exact hQ _ _
      | refine Exists.imp fun _ => ?_
      | refine or_mono ?_ ?_
      | refine pI_mono fun _ _ => ?_
      | refine pJ_mono fun _ _ => ?_
      | refine pD_mono fun _ _ => ?_
      | refine pR_mono fun _ _ => ?_
      | refine pV_mono fun _ _ => ?_
      | refine lI_mono fun _ => ?_
      | refine lJ_mono fun _ => ?_
      | refine lD_mono fun _ => ?_
      | refine lR_mono fun _ => ?_
      | refine hO_mono fun _ _ => ?_
      | refine hA_mono fun _ _ => ?_
      | refine hI_mono fun _ _ _ => ?_
      | refine hJ_mono fun _ _ _ => ?_
      | refine hQ_mono fun _ _ _ => ?_
      | refine And.imp_right ?_
      | refine bI_mono ?_ ?_
      | refine bC_mono ?_ ?_
      | refine ite_mono ?_ ?_
      | (refine hC _ _ _ _ _ fun o g' => And.imp_right (And.imp_right ?_); rcases o with (_ | v) | e)
      | split
theorem stp_mono {C C' : CT} (hC : CLe C C') {k : Nat} {Q Q' : Post} (hQ : ∀ o g', Q o g' → Q' o g') {X Y : XT} (hX : ∀ pc L st u g, X pc L st u g → Y pc L st u g) {pc : Nat} {L : Lc} {st : List Value} {u : Nat × Nat} {g : Gp} :
    stp C k Q X pc L st u g → stp C' k Q' Y pc L st u g := by
  unfold stp
  split
  · exact st1_mono hC hQ hX
  · exact id
theorem EX_in {C : CT} (hC : CLe C C) {k : Nat} {Q : Post} {pc : Nat} {L : Lc} {st : List Value} {u : Nat × Nat} {g : Gp} (h : stp C k Q (EX C k Q) pc L st u g) : EX C k Q pc L st u g :=
  fun X hX => hX _ _ _ _ _ (stp_mono hC (fun _ _ h => h) (fun _ _ _ _ _ h9 => h9 X hX) h)
theorem EX_unf {C : CT} (hC : CLe C C) {k : Nat} {Q : Post} {pc : Nat} {L : Lc} {st : List Value} {u : Nat × Nat} {g : Gp} : EX C k Q pc L st u g ↔ stp C k Q (EX C k Q) pc L st u g :=
  ⟨fun h => h (stp C k Q (EX C k Q)) fun _ _ _ _ _ h9 => stp_mono hC (fun _ _ h => h) (fun _ _ _ _ _ h8 => EX_in hC h8) h9, EX_in hC⟩
theorem EX_mono {C C' : CT} (hC : CLe C C') {k : Nat} {Q Q' : Post} (hQ : ∀ o g', Q o g' → Q' o g') {pc : Nat} {L : Lc} {st : List Value} {u : Nat × Nat} {g : Gp} (h : EX C k Q pc L st u g) : EX C' k Q' pc L st u g :=
  fun X hX => h X fun _ _ _ _ _ h9 => hX _ _ _ _ _ (stp_mono hC hQ (fun _ _ _ _ _ h8 => h8) h9)
theorem cal_le : ∀ d : Nat, CLe (cal d) (cal d) ∧ CLe (cal d) (cal (d + 1)) := by
  intro d
  induction d with
  | zero => exact ⟨fun _ _ _ _ _ _ h => h, fun _ _ _ _ _ _ h => h.elim⟩
  | succ d ih =>
    exact ⟨fun y vs g R R' hR h => ⟨h.1, h.2.1, EX_mono ih.1 hR h.2.2⟩, fun y vs g R R' hR h => ⟨h.1, h.2.1, EX_mono ih.2 hR h.2.2⟩⟩
theorem cal_mono (d : Nat) : CLe (cal d) (cal d) := (cal_le d).1
theorem cal_up (d n : Nat) : CLe (cal d) (cal (d + n)) := by
  induction n with
  | zero => exact cal_mono d
  | succ n ih => exact fun y vs g R R' hR h => (cal_le (d + n)).2 y vs g R' R' (fun _ _ h => h) (ih y vs g R R' hR h)
