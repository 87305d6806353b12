/-! ===== from the interpreter to the machine, 7: throws, handlers, the contracts by depth (by program, wip/whole/gsn5.py) ===== -/
/-- throws: method, place, the class' link, the exception, the text's entry, the constructor's link, ldc_w -/
def thT : List (Nat × Nat × Nat × Nat × Nat × Nat × Nat) := [(81, 14, 69, 0, 71, 73, 0), (82, 11, 90, 1, 92, 94, 0), (82, 28, 69, 0, 98, 73, 0), (85, 46, 135, 2, 137, 139, 0), (86, 11, 90, 1, 147, 94, 0), (87, 11, 90, 1, 92, 94, 0), (87, 30, 69, 0, 160, 73, 0), (88, 10, 69, 0, 160, 73, 0), (89, 15, 90, 1, 169, 94, 0), (90, 11, 90, 1, 177, 94, 0), (90, 31, 69, 0, 160, 73, 0), (91, 27, 90, 1, 185, 94, 0), (92, 15, 90, 1, 190, 94, 0), (93, 11, 90, 1, 177, 94, 0), (94, 11, 90, 1, 177, 94, 0), (95, 10, 69, 0, 207, 73, 0), (96, 10, 69, 0, 207, 73, 0), (97, 4, 90, 1, 222, 94, 0), (101, 10, 69, 0, 250, 73, 0), (101, 30, 135, 2, 253, 139, 0), (104, 10, 135, 2, 267, 139, 1)]
theorem xw_0 : ∀ w ∈ (vx_atS RX8 73 (exn 0) ["java/lang/RuntimeException", "java/lang/Exception"]).filter goodWord, w ∈ lw_tbl := by decide +kernel
theorem xn_0 : ∀ w ∈ (vx_atS RX8 73 (exn 0) ["java/lang/RuntimeException", "java/lang/Exception"]).filter (fun w => !goodWord w), w ∈ CW := by decide +kernel
theorem xg_0 : ∀ w ∈ vx_atS RX8 73 (exn 0) ["java/lang/RuntimeException", "java/lang/Exception"], vx_ot w = true := by decide +kernel
theorem xw_1 : ∀ w ∈ (vx_atS RX8 94 (exn 1) ["java/lang/RuntimeException", "java/lang/Exception"]).filter goodWord, w ∈ lw_tbl := by decide +kernel
theorem xn_1 : ∀ w ∈ (vx_atS RX8 94 (exn 1) ["java/lang/RuntimeException", "java/lang/Exception"]).filter (fun w => !goodWord w), w ∈ CW := by decide +kernel
theorem xg_1 : ∀ w ∈ vx_atS RX8 94 (exn 1) ["java/lang/RuntimeException", "java/lang/Exception"], vx_ot w = true := by decide +kernel
theorem xw_2 : ∀ w ∈ (vx_atS RX8 139 (exn 2) ["java/lang/RuntimeException", "java/lang/Exception"]).filter goodWord, w ∈ lw_tbl := by decide +kernel
theorem xn_2 : ∀ w ∈ (vx_atS RX8 139 (exn 2) ["java/lang/RuntimeException", "java/lang/Exception"]).filter (fun w => !goodWord w), w ∈ CW := by decide +kernel
theorem xg_2 : ∀ w ∈ vx_atS RX8 139 (exn 2) ["java/lang/RuntimeException", "java/lang/Exception"], vx_ot w = true := by decide +kernel
def thB (t : Nat × Nat × Nat × Nat × Nat × Nat × Nat) : Bool := match t with
  | (k, pc, x, e, is, ic, w) => decide (own k = 8) && decide (rk k ≠ 6) && decide (e < 3) && decide (ic = [73, 94, 139].getD e 0) && decide (x = [69, 90, 135].getD e 0) && decide (decode (mB k) pc = .ok (.new x, 3)) && decide (decode (mB k) (pc + 3) = .ok (.dup, 1)) && (stT.any fun q => q.1 == is) && (hhs k).isEmpty &&
    (if w = 0 then decide (decode (mB k) (pc + 4) = .ok (.ldc is, 2)) && decide (decode (mB k) (pc + 6) = .ok (.invokespecial ic, 3)) && decide (decode (mB k) (pc + 9) = .ok (.athrow, 1))
     else decide (decode (mB k) (pc + 4) = .ok (.ldc_w is, 3)) && decide (decode (mB k) (pc + 7) = .ok (.invokespecial ic, 3)) && decide (decode (mB k) (pc + 10) = .ok (.athrow, 1)))
theorem th_all : ∀ t ∈ thT, thB t = true := by decide +kernel
def isTh (q : Nat × Instr × Nat × Nat × Nat × Nat × List Nat) : Bool := match q with
  | (_, .new _, _, _, _, 1, _) => true
  | _ => false
def AllTh : Nat → List (List (Nat × Instr × Nat × Nat × Nat × Nat × List Nat)) → Bool
  | _, [] => true
  | k, l :: t => l.all (fun q => match q with
    | (pc, .new x, _, e, _, 1, _) => thT.any fun t => t.1 == k && t.2.1 == pc && t.2.2.1 == x && t.2.2.2.1 == e
    | _ => true) && AllTh (k + 1) t
theorem thA : AllTh 0 cdL = true := by decide +kernel
theorem AllTh_at {k : Nat} {ls : List (List (Nat × Instr × Nat × Nat × Nat × Nat × List Nat))} (h : AllTh k ls = true) (j : Nat) : ∀ q ∈ ls.getD j [], (match q with
    | (pc, .new x, _, e, _, 1, _) => thT.any fun t => t.1 == (k + j) && t.2.1 == pc && t.2.2.1 == x && t.2.2.2.1 == e
    | _ => true) = true := by
  induction ls generalizing k j with
  | nil => intro q hq; simp at hq
  | cons l t ih =>
    simp only [AllTh, Bool.and_eq_true] at h
    cases j with
    | zero => exact fun q hq => List.all_eq_true.mp h.1 q hq
    | succ j =>
      have := ih h.2 j
      rw [show k + 1 + j = k + (j + 1) by omega] at this
      simpa using this
theorem cd_mem {k pc : Nat} {x : Instr × Nat × Nat × Nat × Nat × List Nat} (h : cd k pc = some x) : (pc, x) ∈ cdL.getD k [] := by
  unfold cd at h
  obtain ⟨q, hq, rfl⟩ := Option.map_eq_some_iff.mp h
  have h1 := List.mem_of_find?_eq_some hq
  have h2 := List.find?_some hq
  have h4 : q.1 = pc := by simpa using h2
  subst h4
  exact h1
theorem th_at {k pc x n e b : Nat} {ks : List Nat} (h : cd k pc = some (.new x, n, e, b, 1, ks)) : ∃ is ic w, (k, pc, x, e, is, ic, w) ∈ thT := by
  have h1 : (thT.any fun t => t.1 == (0 + k) && t.2.1 == pc && t.2.2.1 == x && t.2.2.2.1 == e) = true := AllTh_at thA k _ (cd_mem h)
  obtain ⟨t, ht, h2⟩ := List.any_eq_true.mp h1
  obtain ⟨k', pc', x', e', is, ic, w⟩ := t
  simp only [Bool.and_eq_true, beq_iff_eq, Nat.zero_add] at h2
  obtain ⟨⟨⟨rfl, rfl⟩, rfl⟩, rfl⟩ := h2
  exact ⟨is, ic, w, ht⟩
theorem xs_low {k ge : Nat} {p : Program} {l : Launch} {e : Env} {R : Room} {s : State} {m : MethodId} {args : Array Value} {below : List Frame} {meth : Method} {c : Code} {D : va_G} {ca : Nat → ClassId} {B : AM} {b Ln : Nat} {xs : Nat → Int32} {QQ : State → Prop} {pc : Nat} {L : Lc} {st : List Value} {u : Nat × Nat} {g : Gp} {ks : List Nat} {fr : Prop} [Decidable fr]
    (h : XS k ge p l e R s m args below meth c D ca B b Ln xs QQ pc (killL L ks) st u (if fr then frz g else g)) : XS k ge p l e R s m args below meth c D ca B b Ln xs QQ pc L st u g := by
  intro H locs ls hl hw hS hE h1 h2 hz0
  by_cases hf : fr
  · rw [if_pos hf] at h
    by_cases g0 : g.1 = 0
    · have e1 : frz g = (M0, g.2) := by unfold frz; rw [if_pos g0]
      rw [e1] at h
      have e2 : tgm M0 = tgm g.1 := by rw [g0]; rfl
      have h9 := h H locs ls (hl.kill ks) hw hS (fun e9 => absurd e9 (by show ¬ M0 = 0; unfold M0; omega)) h1 h2 ⟨by show tgm M0 ≤ tgm ge; rw [e2]; exact hz0.1, fun e9 => absurd e9 (by show ¬ M0 = 0; unfold M0; omega)⟩
      have h9 : W p l e R s m args below meth c H locs (uc ge u M0) (us ge u M0) QQ (F0 m pc ls (st.map (tr B b))) := h9
      unfold uc us at h9 ⊢
      rw [e2] at h9
      exact h9
    · have e1 : frz g = g := by unfold frz; rw [if_neg g0]
      rw [e1] at h
      exact h H locs ls (hl.kill ks) hw hS hE h1 h2 hz0
  · rw [if_neg hf] at h
    exact h H locs ls (hl.kill ks) hw hS hE h1 h2 hz0
/-- what a throw asks of its surroundings -/
abbrev HThr (k ge : Nat) (p : Program) (l : Launch) (e : Env) (R : Room) (s : State) (m : MethodId) (args : Array Value) (below : List Frame) (meth : Method) (c : Code) (D : va_G) (ca : Nat → ClassId) (B : AM) (b Ln : Nat) (xs : Nat → Int32) (QQ : State → Prop) (Q : Post) : Prop :=
  ∀ (pc x n e9 b9 : Nat) (ks : List Nat), cd k pc = some (.new x, n, e9, b9, 1, ks) → ∀ (g : Gp) (H : Heap) (locs : List Loc) (L : Lc) (ls : Array Slot) (st : List Value) (u : Nat × Nat), Q (.inr e9) (g.1 - 1, g.2) → 2 ≤ g.1 → st.length ≤ 4 → LH B b ls (mxl k) L → WD D ca B b Ln xs g H → va_S (AB B.1) s.heap H locs → u.1 ≤ bc k → u.2 ≤ bs k → Mk ge g.1 →
    W p l e R s m args below meth c H locs (uc ge u g.1) (us ge u g.1) QQ (F0 m pc ls (st.map (tr B b)))
/-! what every end of a step has, its beginning has (of the mark) -/
theorem pI_el {P : Prop} {st : List Value} {K : Int32 → List Value → Prop} (h : ∀ x r, K x r → P) : pI st K → P := by
  unfold pI; split <;> first | exact h _ _ | exact False.elim
theorem pJ_el {P : Prop} {st : List Value} {K : Int64 → List Value → Prop} (h : ∀ x r, K x r → P) : pJ st K → P := by
  unfold pJ; split <;> first | exact h _ _ | exact False.elim
theorem pD_el {P : Prop} {st : List Value} {K : UInt64 → List Value → Prop} (h : ∀ x r, K x r → P) : pD st K → P := by
  unfold pD; split <;> first | exact h _ _ | exact False.elim
theorem pR_el {P : Prop} {st : List Value} {K : Nat → List Value → Prop} (h : ∀ x r, K x r → P) : pR st K → P := by
  unfold pR; split <;> first | exact h _ _ | exact False.elim
theorem pV_el {P : Prop} {st : List Value} {K : Value → List Value → Prop} (h : ∀ x r, K x r → P) : pV st K → P := by
  unfold pV; split <;> first | exact h _ _ | exact False.elim
theorem lI_el {P : Prop} {L : Lc} {n : Nat} {K : Int32 → Prop} (h : ∀ x, K x → P) : lI L n K → P := by
  unfold lI; split <;> first | exact h _ | exact False.elim
theorem lJ_el {P : Prop} {L : Lc} {n : Nat} {K : Int64 → Prop} (h : ∀ x, K x → P) : lJ L n K → P := by
  unfold lJ; split <;> first | exact h _ | exact False.elim
theorem lD_el {P : Prop} {L : Lc} {n : Nat} {K : UInt64 → Prop} (h : ∀ x, K x → P) : lD L n K → P := by
  unfold lD; split <;> first | exact h _ | exact False.elim
theorem lR_el {P : Prop} {L : Lc} {n : Nat} {K : Nat → Prop} (h : ∀ x, K x → P) : lR L n K → P := by
  unfold lR; split <;> first | exact h _ | exact False.elim
theorem hO_el {P : Prop} {g : Gp} {a : Nat} {K : Nat → List Value → Prop} (h : ∀ x y, K x y → P) : hO g a K → P := by
  unfold hO; split <;> first | exact h _ _ | exact False.elim
theorem hA_el {P : Prop} {g : Gp} {a : Nat} {K : Nat → Nat → Prop} (h : ∀ x y, K x y → P) : hA g a K → P := by
  unfold hA; split <;> first | exact h _ _ | exact False.elim
theorem hI_el {P : Prop} {g : Gp} {a : Nat} {K : Nat → Nat → (Nat → Int32) → Prop} (h : ∀ x y z, K x y z → P) : hI g a K → P := by
  unfold hI; split <;> first | exact h _ _ _ | exact False.elim
theorem hJ_el {P : Prop} {g : Gp} {a : Nat} {K : Nat → Nat → (Nat → Int64) → Prop} (h : ∀ x y z, K x y z → P) : hJ g a K → P := by
  unfold hJ; split <;> first | exact h _ _ _ | exact False.elim
theorem hQ_el {P : Prop} {g : Gp} {a : Nat} {K : Nat → Nat → (Nat → Option Nat) → Prop} (h : ∀ x y z, K x y z → P) : hQ g a K → P := by
  unfold hQ; split <;> first | exact h _ _ _ | exact False.elim
theorem ite_el {P b : Prop} [Decidable b] {x y : Prop} (h1 : x → P) (h2 : y → P) : (if b then x else y) → P := by
  split <;> assumption
theorem bI_el {P : Prop} {x : Int32} {o : ClassFile.Cond} {A B : Prop} (h1 : A → P) (h2 : B → P) : bI x o A B → P := by
  cases o <;> simp only [bI] <;> split <;> assumption
theorem bC_el {P : Prop} {x y : Int32} {o : ClassFile.Cond} {A B : Prop} (h1 : A → P) (h2 : B → P) : bC x y o A B → P := by
  cases o <;> simp only [bC] <;> split <;> assumption
theorem and_el {P a b : Prop} (h : b → P) : a ∧ b → P := fun q => h q.2
theorem or_el {P a b : Prop} (h1 : a → P) (h2 : b → P) : a ∨ b → P := fun q => q.elim h1 h2
theorem st1_call_el {C : CT} {k : Nat} {Q : Post} {P : Nat → Prop} (hC : ∀ y vs g R, C y vs g R → ∃ o g', R o g') (hQ : ∀ o g', Q o g' → P g'.1) (hm : ∀ m x, (x = 0 ∨ x < m) → P (m - x) → P m) {b c a : Nat} {st : List Value} {u : Nat × Nat} {g : Gp}
    (h : if c = 6 then pR st fun _ r => r.length ≤ 4 ∧ P g.1
      else if c = 8 then pI st fun y r => pI r fun x r => r.length ≤ 4 ∧ P g.1
      else if c = 9 then pI st fun y r => pI r fun x r => r.length ≤ 4 ∧ P g.1 else
      b ≤ st.length ∧ (st.drop b).length ≤ 4 ∧ u.1 + bc a ≤ bc k ∧ u.2 + bs a ≤ bs k ∧ rcK c a g (st.take b).reverse ∧
        ∃ w : Nat, (w = 0 ∨ w < g.1) ∧ C a (st.take b).reverse g fun o g' => (g.1 ≤ g'.1 + w ∧ g'.1 ≤ g.1) ∧ (g'.1 = 0 → g.1 = 0 ∧ g'.2.length = g.2.length + bc a) ∧ match o with
          | .inl none => P (g.1 - w)
          | .inl (some v) => P (g.1 - w)
          | .inr e => match hnd k e with
            | some r => Q (.inl (some (.int r))) (g.1 - w, g'.2)
            | none => False) : P g.1 := by
  split at h
  · exact pR_el (fun _ _ q => q.2) h
  · split at h
    · exact pI_el (fun _ _ q => pI_el (fun _ _ q => q.2) q) h
    · split at h
      · exact pI_el (fun _ _ q => pI_el (fun _ _ q => q.2) q) h
      · obtain ⟨-, -, -, -, -, w, hw, hc⟩ := h
        obtain ⟨o, g', -, -, h8⟩ := hC _ _ _ _ hc
        cases o with
        | inl v => cases v with
          | none => exact hm _ _ hw h8
          | some v => exact hm _ _ hw h8
        | inr e =>
          dsimp only at h8
          split at h8
          · exact hm _ _ hw (hQ _ _ h8)
          · exact h8.elim
set_option maxHeartbeats 4000000 in
theorem st1_el {C : CT} {k : Nat} {Q : Post} {P : Nat → Prop} (hC : ∀ y vs g R, C y vs g R → ∃ o g', R o g') (hQ : ∀ o g', Q o g' → P g'.1) (hm : ∀ m x, (x = 0 ∨ x < m) → P (m - x) → P m) {pc : Nat} {i : Instr} {n a b c : Nat} {L : Lc} {st : List Value} {u : Nat × Nat} {g : Gp} :
    st1 C k Q (fun _ _ _ _ g => P g.1) pc i n a b c L st u g → P g.1 := by
  cases i with
  | new x =>
    intro h
    unfold st1 at h
    dsimp only at h
    split at h
    · exact hm _ 1 (Or.inr (by omega)) (hQ _ _ h.2.2)
    · exact h.2.2.2
  | newarray t =>
    simp only [st1]
    refine pI_el fun z r h => ?_
    obtain ⟨-, -, -, h⟩ := h
    split at h
    · exact h.2.2
    · exact hm _ 9 (Or.inr (by omega)) h.2.2.2.2.2.2.2.2
  | invokevirtual x => exact st1_call_el hC hQ hm
  | invokestatic x => exact st1_call_el hC hQ hm
  | invokespecial x => exact st1_call_el hC hQ hm
  | _ =>
    simp only [st1]
    repeat first
      | exact fun h => h
      | exact hQ _ _
      | exact False.elim
      | refine pI_el fun _ _ => ?_
      | refine pJ_el fun _ _ => ?_
      | refine pD_el fun _ _ => ?_
      | refine pR_el fun _ _ => ?_
      | refine pV_el fun _ _ => ?_
      | refine lI_el fun _ => ?_
      | refine lJ_el fun _ => ?_
      | refine lD_el fun _ => ?_
      | refine lR_el fun _ => ?_
      | refine hO_el fun _ _ => ?_
      | refine hA_el fun _ _ => ?_
      | refine hI_el fun _ _ _ => ?_
      | refine hJ_el fun _ _ _ => ?_
      | refine hQ_el fun _ _ _ => ?_
      | refine and_el ?_
      | refine or_el ?_ ?_
      | refine bI_el ?_ ?_
      | refine bC_el ?_ ?_
      | refine ite_el ?_ ?_
      | split
theorem cal_ne : ∀ (d y : Nat) (vs : List Value) (g : Gp) (R : Post), cal d y vs g R → ∃ o g', R o g' := by
  intro d
  induction d with
  | zero => exact fun _ _ _ _ h => h.elim
  | succ d ih =>
    intro y vs g R h
    refine h.2.2 (fun _ _ _ _ _ => ∃ o g', R o g') fun pc L st u g h => ?_
    unfold stp at h
    split at h
    · exact st1_el (P := fun _ => ∃ o g', R o g') ih (fun o g' h => ⟨o, g', h⟩) (fun _ _ _ h => h) h
    · exact h.elim
theorem frz_tg (g : Gp) : tgm (frz g).1 = tgm g.1 := by
  unfold frz
  by_cases h : g.1 = 0
  · rw [if_pos h, h]; rfl
  · rw [if_neg h]
/-- the same of a step at a place, with the freezing -/
theorem stp_el {C : CT} {k ge w : Nat} {Q : Post} (hC : ∀ y vs g R, C y vs g R → ∃ o g', R o g') (hQ : ∀ o g', Q o g' → tgm ge ≤ tgm g'.1 + w) {pc : Nat} {L : Lc} {st : List Value} {u : Nat × Nat} {g : Gp} (h : stp C k Q (fun _ _ _ _ g => tgm ge ≤ tgm g.1 + w) pc L st u g) : tgm ge ≤ tgm g.1 + w := by
  unfold stp at h
  split at h
  · have h9 := st1_el (P := fun m => tgm ge ≤ tgm m + w) hC hQ (fun m x hx h => by rw [(tg_sub hx).1] at h; omega) h
    split at h9
    · rw [← frz_tg g]; exact h9
    · exact h9
  · exact h.elim
/-! a method that allots a row of ints while all is frozen: the map of addresses has one cell more -/
def BOK (k : Nat) (B9 Be : AM) : Prop := B9.1 = Be.1 ∧ (rk k ≠ 6 → B9 = Be) ∧ ∀ i, i < 58 → B9.2 i = Be.2 i
theorem BOK.rf (k : Nat) (B : AM) : BOK k B B := ⟨rfl, fun _ => rfl, fun _ _ => rfl⟩
theorem BI_of {D : Nat → Prop} {ca : Nat → ClassId} {B : AM} {b : Nat} {hs : List AE} (h : va_D D (wof ca B b hs)) (hD : ∀ q, D q → B.1 ≤ q) : BI B hs.length := by
  have key : ∀ i, i + 1 < hs.length → ∃ x, (wof ca B b hs)[i]? = some (B.2 i, x) := fun i hi => by
    rw [wof_get, List.getElem?_eq_getElem hi]
    exact ⟨_, rfl⟩
  refine ⟨fun i j hi hj e => ?_, fun i hi => ?_⟩
  · obtain ⟨x, hx⟩ := key i hi
    obtain ⟨y, hy⟩ := key j hj
    exact h.1 i j _ _ hx hy e
  · obtain ⟨x, hx⟩ := key i hi
    exact hD _ (h.2 i _ hx)
theorem tr_clo {B B' : AM} {b n : Nat} (h : ∀ i, i + 1 < n → B.2 i = B'.2 i) {v : Value} (hv : cloV n v) : tr B b v = tr B' b v := tr_eq h fun o e => by subst e; exact hv
theorem cv_clo {ca : Nat → ClassId} {B B' : AM} {b n : Nat} (h : ∀ i, i + 1 < n → B.2 i = B'.2 i) {x : AE} (hx : cloE n x) : cv ca B b x = cv ca B' b x := by
  match x, hx with
  | .inl (_, _, .inl _), _ => rfl
  | .inl (_, _, .inr (.inl _)), _ => rfl
  | .inl (_, _, .inr (.inr (.inl _))), _ => rfl
  | .inl (_, _, .inr (.inr (.inr (.inl _)))), _ => rfl
  | .inl (t, z, .inr (.inr (.inr (.inr f)))), hx =>
    show Sum.inl _ = Sum.inl _
    have : (fun j => (f j).map (ad B b)) = fun j => (f j).map (ad B' b) := by
      funext j
      cases e : f j with
      | none => rfl
      | some q =>
        have h1 := tr_clo (b := b) h (v := .ref q) (hx j q e)
        have h2 : ad B b q = ad B' b q := Value.ref.inj h1
        show some _ = some _
        rw [h2]
    rw [this]
  | .inr (ci, fs), hx =>
    show Sum.inr _ = Sum.inr _
    rw [List.map_congr_left fun v hv => tr_clo (b := b) h (hx v hv)]
theorem wof_clo {ca : Nat → ClassId} {B B' : AM} {b : Nat} {hs : List AE} (h : ∀ i, i + 1 < hs.length → B.2 i = B'.2 i) (hc : clo hs.length hs) : wof ca B b hs = wof ca B' b hs := by
  apply List.ext_getElem?
  intro i
  rw [wof_get, wof_get]
  by_cases hi : i + 1 < hs.length
  · rw [List.getElem?_eq_getElem hi, Option.map_some, Option.map_some, h i hi, cv_clo h (hc _ (List.getElem_mem hi))]
  · rw [List.getElem?_eq_none (by omega)]; rfl
section SND5
variable {k ge w : Nat} {p : Program} {l : Launch} {e : Env} {R : Room} {s : State} {m : MethodId} {args : Array Value} {below : List Frame} {meth : Method} {c : Code} {D : va_G} {ca : Nat → ClassId} {B : AM} {b Ln : Nat} {xs : Nat → Int32} {d : Nat} {QQ : State → Prop}
variable {C : CT} {Q : Post} {pc n a9 b9 c9 : Nat} {L : Lc} {st : List Value} {u : Nat × Nat} {g : Gp}

set_option maxHeartbeats 4000000 in
theorem xs_arr {r : List Value} {z : Int32} {Be : AM} (F : FrC k w p R s m args meth c D ca B b Ln xs d) (hd : decode (mB k) pc = .ok (.newarray .int, 2)) (hcj : tgm ge ≤ tgm (g.1 - 9) + w) (hz : 0 ≤ z) (h54 : z.toNatClampNeg ≤ 54) (h10 : 10 ≤ g.1) (hlen : 59 ≤ g.2.length) (hc1 : clo g.2.length g.2) (hc2 : cloL g.2.length L) (hc3 : ∀ v ∈ r, cloV g.2.length v) (h6 : rk k = 6) (hB : BOK k B Be)
    (h : ∀ B9, BOK k B9 Be → XS k ge p l e R s m args below meth c D ca B9 b Ln xs QQ (pc + 2) L (.ref g.2.length :: r) u (g.1 - 9, g.2 ++ [atNew .int z.toNatClampNeg])) : XS k ge p l e R s m args below meth c D ca B b Ln xs QQ pc L (.int z :: r) u g := by
  obtain ⟨hx, hb, hml, hown, hts, hSF, hbB, hBs, hX, hR1, hR2, hR3, hR4, hnm⟩ := F
  have hK := hSF.1
  have hAll : ∀ q, s.heap.size ≤ q → AB B.1 q := fun q hq => Nat.le_trans hBs hq
  intro H locs ls hl hw hS hE h1 h2 hz0
  have hneg : ¬ z < 0 := fun q => Int32.lt_irrefl (Int32.lt_of_lt_of_le q hz)
  have ht9 : tgm (g.1 - 9) = g.1 - 9 ∧ tgm g.1 = g.1 := by unfold tgm; rw [if_neg (by omega), if_neg (by omega)]; exact ⟨rfl, rfl⟩
  have hm := hz0.1
  rw [ht9.1] at hcj
  rw [ht9.2] at hm
  have hU : uc ge u g.1 + 9 = uc ge u (g.1 - 9) ∧ us ge u g.1 + 54 = us ge u (g.1 - 9) := by
    unfold uc us
    rw [ht9.1, ht9.2]
    omega
  have hRm : uc ge u (g.1 - 9) ≤ R.cells ∧ us ge u (g.1 - 9) ≤ R.slots := by
    unfold uc us
    rw [ht9.1]
    omega
  refine va_newa (D := D) (a0 := (z.toNatClampNeg, .inl fun _ => 0)) hx hb (hts _ (sp_at (j := 7) rfl)) (ty := .int) rfl hK hw.2.1 hw.D hS hAll (fun cA => rfl) hneg rfl (by show z.toNatClampNeg * 4 ≤ _; omega) (by omega) (by omega) hd fun q cA H1 hK1 hP1 hD1 hS1 => ?_
  obtain rfl := tys_name (t := 0) hK hK1 rfl
  let B' : AM := (B.1, fun i => if i = g.2.length - 1 then q else B.2 i)
  have hB'0 : ∀ i, i + 1 < g.2.length → B.2 i = B'.2 i := fun i hi => by
    show B.2 i = if i = g.2.length - 1 then q else B.2 i
    rw [if_neg (by omega)]
  have hq : B'.2 (g.2.length - 1) = q := if_pos rfl
  have hBO : BOK k B' Be := ⟨hB.1, fun e9 => absurd h6 e9, fun i hi => by rw [← hB'0 i (by omega)]; exact hB.2.2 i hi⟩
  obtain ⟨⟨tl, htl⟩, -, hBI⟩ := id hw
  have hwof : wof ca B b g.2 ++ [(q, (Sum.inl (ca 0, z.toNatClampNeg, .inl fun _ => 0) : va_E))] = wof ca B' b (g.2 ++ [atNew .int z.toNatClampNeg]) := by
    rw [wof_push ca B' b g.2 (by omega), ← wof_clo hB'0 hc1, hq]
    rfl
  have hw' : WD D ca B' b Ln xs (g.1 - 9, g.2 ++ [atNew .int z.toNatClampNeg]) H1 := by
    refine ⟨⟨tl ++ [atNew .int z.toNatClampNeg], ?_⟩, ?_, ?_⟩
    · show g.2 ++ [_] = _
      rw [htl]; rfl
    · show va_P D vwCl (wof ca B' b (g.2 ++ [atNew .int z.toNatClampNeg])) H1
      rw [← hwof]; exact hP1
    · refine BI_of (D := AB B.1) (ca := ca) (b := b) ?_ (fun q h => h)
      show va_D (AB B.1) (wof ca B' b (g.2 ++ [atNew .int z.toNatClampNeg]))
      rw [← hwof]; exact hD1
  have hl' : LH B' b ls (mxl k) L := ⟨hl.1, hl.2.1, fun i v hi => by rw [hl.2.2 i v hi, tr_clo hB'0 (hc2 i v hi)]⟩
  have h9 := h B' hBO H1 locs ls hl' hw' hS1 (fun e9 => by have e9 : g.1 - 9 = 0 := e9; omega) h1 h2 ⟨by rw [ht9.1]; omega, fun e9 => by have e9 : g.1 - 9 = 0 := e9; omega⟩
  have e1 : tr B' b (.ref g.2.length) = .ref q := by
    show Value.ref (ad B' b _) = _
    unfold ad
    rw [if_neg (by omega), hq]
  have e2 : r.map (tr B' b) = r.map (tr B b) := List.map_congr_left fun v hv => (tr_clo hB'0 (hc3 v hv)).symm
  rw [List.map_cons, e1, e2] at h9
  refine W.widen (k := uc ge u (g.1 - 9)) (n := us ge u (g.1 - 9)) ?_ ?_ h9
  · omega
  · omega
set_option maxHeartbeats 4000000 in
/-- every place that the interpreter says is good is good on the machine -/
theorem xs_all {Be : AM} (F : FrC k w p R s m args meth c D ca Be b Ln xs (d + 1)) (hEX : EXF Be.1 s) (hC : HCal l C d) (hCle : CLe C C) (hNe : ∀ y vs g R, C y vs g R → ∃ o g', R o g') (hcQ : ∀ o g', Q o g' → tgm ge ≤ tgm g'.1 + w)
    (hret : HRet k ge p l e R s m args below meth c D ca Be b Ln xs QQ Q) (hret6 : ∀ B9, BOK k B9 Be → HRet6 k ge p l e R s m args below meth c D ca B9 b Ln xs QQ Q) (hthr : HThr k ge p l e R s m args below meth c D ca Be b Ln xs QQ Q) (hex : HExc k ge p l e R s m args below meth c D ca Be b Ln xs QQ Q) (hx6 : ∀ e9 r9, hnd k e9 = some r9 → rk k ≠ 6)
    (h : EX C k Q pc L st u g) : XS k ge p l e R s m args below meth c D ca Be b Ln xs QQ pc L st u g := by
  refine (h (fun pc L st u g => tgm ge ≤ tgm g.1 + w ∧ ∀ B9, BOK k B9 Be → XS k ge p l e R s m args below meth c D ca B9 b Ln xs QQ pc L st u g) fun pc L st u g h => ?_).2 Be (BOK.rf k Be)
  have hcj := stp_el hNe hcQ (stp_mono hCle (fun _ _ h => h) (fun _ _ _ _ _ h => h.1) h)
  refine ⟨hcj, fun B hB => ?_⟩
  have F9 : FrC k w p R s m args meth c D ca B b Ln xs (d + 1) := by
    obtain ⟨q1, q2, q3, q4, q5, q6, q7, q8, q9⟩ := F
    exact ⟨q1, q2, q3, q4, q5, q6, by rw [hB.1]; exact q7, by rw [hB.1]; exact q8, q9⟩
  have hret9 : HRet k ge p l e R s m args below meth c D ca B b Ln xs QQ Q := by
    intro v pc ls g H locs u hq hrk
    have h6 : rk k ≠ 6 := by
      intro e6
      rw [e6] at hrk
      cases v with
      | none => cases hrk
      | some v => cases v <;> first | (rcases hrk with hrk | ⟨hrk, -⟩ <;> cases hrk; done) | (cases hrk; done)
    have := hB.2.1 h6
    subst this
    exact hret v pc ls g H locs u hq hrk
  have hthr9 : HThr k ge p l e R s m args below meth c D ca B b Ln xs QQ Q := by
    intro pc x n e9 b9 ks hcd
    obtain ⟨is, ic, w', ht⟩ := th_at hcd
    have hT := th_all _ ht
    simp only [thB, Bool.and_eq_true, decide_eq_true_eq] at hT
    have h6 : rk k ≠ 6 := hT.1.1.1.1.1.1.1.1.2
    have := hB.2.1 h6
    subst this
    exact hthr pc x n e9 b9 ks hcd
  have hex9 : HExc k ge p l e R s m args below meth c D ca B b Ln xs QQ Q := by
    intro pc i n a9 b9 c9 ks hcd hg e9 r9 hr9
    have := hB.2.1 (hx6 e9 r9 hr9)
    subst this
    exact hex pc i n a9 b9 c9 ks hcd hg e9 r9 hr9
  by_cases hfa : ∃ t n a9 b9 c9 ks, cd k pc = some (.newarray t, n, a9, b9, c9, ks) ∧ (if ks.contains 1000 then frz g else g).1 ≠ 0
  · obtain ⟨t, n, a9, b9, c9, ks, hcd, hne⟩ := hfa
    unfold stp at h
    rw [hcd] at h
    dsimp only at h
    have hok := okC hcd
    simp only [okB, Bool.and_eq_true, decide_eq_true_eq, Bool.or_eq_true, beq_iff_eq] at hok
    have hn : n = 2 := hok.1.2.resolve_right (by simp [isTS])
    subst hn
    refine xs_low (ks := ks) (fr := ks.contains 1000 = true) ?_
    generalize (if ks.contains 1000 = true then frz g else g) = g2 at *
    obtain ⟨z, r, he0, hz, hzn, ht9, h8⟩ := pI_ex h
    clear h
    subst he0
    rw [if_neg hne] at h8
    obtain ⟨h6, ht0, h54, h10, h59, hc1, hc2, hc3, h9⟩ := h8
    have hti : t = .int := by
      cases t <;> first | rfl | (exfalso; revert ht0; simp [atTag])
    subst hti
    exact xs_arr F9 hok.1.1 h9.1 hz h54 h10 h59 hc1 hc2 hc3 h6 hB h9.2
  · have h := stp_mono (Y := fun pc L st u g => tgm ge ≤ tgm g.1 + w ∧ XS k ge p l e R s m args below meth c D ca B b Ln xs QQ pc L st u g) hCle (fun _ _ h => h) (fun _ _ _ _ _ h => ⟨h.1, h.2 B hB⟩) h
    unfold stp at h
    split at h
    · rename_i i n a9 b9 c9 ks hcd
      have hok := okC hcd
      have hok0 := hok
      simp only [okB, Bool.and_eq_true, decide_eq_true_eq, Bool.or_eq_true, beq_iff_eq] at hok0
      have hd := hok0.1.1
      have hn : isTS i = false → n = ilen i := fun e9 => hok0.1.2.resolve_right (by rw [e9]; simp)
      have hcj2 : tgm ge ≤ tgm (if ks.contains 1000 = true then frz g else g).1 + w := by
        split
        · rw [frz_tg]; exact hcj
        · exact hcj
      refine xs_low (ks := ks) (fr := ks.contains 1000 = true) ?_
      by_cases hth : ∃ x, i = .new x ∧ c9 = 1
      · obtain ⟨x, rfl, rfl⟩ := hth
        have h : 2 ≤ (if ks.contains 1000 = true then frz g else g).1 ∧ st.length ≤ 4 ∧ Q (.inr a9) ((if ks.contains 1000 = true then frz g else g).1 - 1, (if ks.contains 1000 = true then frz g else g).2) := h
        intro H locs ls hl hw hS hE h1 h2 hz0
        exact hthr9 pc x n a9 b9 ks hcd _ H locs _ ls st u h.2.2 h.1 h.2.1 hl hw hS h1 h2 hz0
      · have hs := st1_mono (Y := XS k ge p l e R s m args below meth c D ca B b Ln xs QQ) hCle (fun _ _ h => h) (fun _ _ _ _ _ h => h.2) h
        rcases (show grp i = 0 ∨ grp i = 1 ∨ grp i = 2 ∨ grp i = 3 ∨ grp i = 4 by cases i <;> simp [grp]) with e9 | e9 | e9 | e9 | e9
        · refine xs_simple F9 hd hn ?_ ?_ ?_ e9 hs
          · have h8 := hok0.2
            cases i <;> first | exact h8 | rfl | exact absurd e9 (by simp [grp])
          · rintro x rfl
            exact llgT_in _ (List.contains_iff_mem.mp hok0.2)
          · rintro x rfl
            exact icgT_in _ (List.contains_iff_mem.mp hok0.2)
        · exact xs_heap F9 hok hd hn e9 hs
        · refine xs_new F9 hok hd hn e9 (fun x e8 e7 => hth ⟨x, e8, e7⟩) (fun t e8 => ?_) hcj2 hs
          subst e8
          exact Classical.byContradiction fun e7 => hfa ⟨t, n, a9, b9, c9, ks, hcd, e7⟩
        · exact xs_call F9 (by rw [hB.1]; exact hEX) hC hNe hcQ hex9 hcd hok hd hn e9 h
        · exact xs_ret hret9 (hret6 B hB) hd hn e9 hs
    · exact h.elim
end SND5
