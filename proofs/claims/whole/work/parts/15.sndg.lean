/-! ===== from the interpreter to the machine, 7: throws, handlers, the contracts by depth (by program, wip/whole/gsn5.py) ===== -/
/-- throws: method, place, the class' link, the exception, the text's entry, the constructor's link, ldc_w -/
def thT : List (Nat × Nat × Nat × Nat × Nat × Nat × Nat) := [(81, 14, 69, 0, 71, 73, 0), (82, 11, 90, 1, 92, 94, 0), (82, 28, 69, 0, 98, 73, 0), (85, 46, 135, 2, 137, 139, 0), (86, 11, 90, 1, 147, 94, 0), (87, 11, 90, 1, 92, 94, 0), (87, 30, 69, 0, 160, 73, 0), (88, 10, 69, 0, 160, 73, 0), (89, 15, 90, 1, 169, 94, 0), (90, 11, 90, 1, 177, 94, 0), (90, 31, 69, 0, 160, 73, 0), (91, 27, 90, 1, 185, 94, 0), (92, 15, 90, 1, 190, 94, 0), (93, 11, 90, 1, 177, 94, 0), (94, 11, 90, 1, 177, 94, 0), (95, 10, 69, 0, 207, 73, 0), (96, 10, 69, 0, 207, 73, 0), (97, 4, 90, 1, 222, 94, 0), (101, 10, 69, 0, 250, 73, 0), (101, 30, 135, 2, 253, 139, 0), (104, 10, 135, 2, 267, 139, 1)]
theorem xw_0 : ∀ w ∈ (vx_atS RX8 73 (exn 0) ["java/lang/RuntimeException", "java/lang/Exception"]).filter goodWord, w ∈ lw_tbl := by decide +kernel
theorem xn_0 : ∀ w ∈ (vx_atS RX8 73 (exn 0) ["java/lang/RuntimeException", "java/lang/Exception"]).filter (fun w => !goodWord w), w ∈ CW := by decide +kernel
theorem xg_0 : ∀ w ∈ vx_atS RX8 73 (exn 0) ["java/lang/RuntimeException", "java/lang/Exception"], vx_ot w = true := by decide +kernel
theorem xw_1 : ∀ w ∈ (vx_atS RX8 94 (exn 1) ["java/lang/RuntimeException", "java/lang/Exception"]).filter goodWord, w ∈ lw_tbl := by decide +kernel
theorem xn_1 : ∀ w ∈ (vx_atS RX8 94 (exn 1) ["java/lang/RuntimeException", "java/lang/Exception"]).filter (fun w => !goodWord w), w ∈ CW := by decide +kernel
theorem xg_1 : ∀ w ∈ vx_atS RX8 94 (exn 1) ["java/lang/RuntimeException", "java/lang/Exception"], vx_ot w = true := by decide +kernel
theorem xw_2 : ∀ w ∈ (vx_atS RX8 139 (exn 2) ["java/lang/RuntimeException", "java/lang/Exception"]).filter goodWord, w ∈ lw_tbl := by decide +kernel
theorem xn_2 : ∀ w ∈ (vx_atS RX8 139 (exn 2) ["java/lang/RuntimeException", "java/lang/Exception"]).filter (fun w => !goodWord w), w ∈ CW := by decide +kernel
theorem xg_2 : ∀ w ∈ vx_atS RX8 139 (exn 2) ["java/lang/RuntimeException", "java/lang/Exception"], vx_ot w = true := by decide +kernel
def thB (t : Nat × Nat × Nat × Nat × Nat × Nat × Nat) : Bool := match t with
  | (k, pc, x, e, is, ic, w) => decide (own k = 8) && decide (e < 3) && decide (ic = [73, 94, 139].getD e 0) && decide (x = [69, 90, 135].getD e 0) && decide (decode (mB k) pc = .ok (.new x, 3)) && decide (decode (mB k) (pc + 3) = .ok (.dup, 1)) && (stT.any fun q => q.1 == is) && (hhs k).isEmpty &&
    (if w = 0 then decide (decode (mB k) (pc + 4) = .ok (.ldc is, 2)) && decide (decode (mB k) (pc + 6) = .ok (.invokespecial ic, 3)) && decide (decode (mB k) (pc + 9) = .ok (.athrow, 1))
     else decide (decode (mB k) (pc + 4) = .ok (.ldc_w is, 3)) && decide (decode (mB k) (pc + 7) = .ok (.invokespecial ic, 3)) && decide (decode (mB k) (pc + 10) = .ok (.athrow, 1)))
theorem th_all : ∀ t ∈ thT, thB t = true := by decide +kernel
def isTh (q : Nat × Instr × Nat × Nat × Nat × Nat × List Nat) : Bool := match q with
  | (_, .new _, _, _, _, 1, _) => true
  | _ => false
def AllTh : Nat → List (List (Nat × Instr × Nat × Nat × Nat × Nat × List Nat)) → Bool
  | _, [] => true
  | k, l :: t => l.all (fun q => match q with
    | (pc, .new x, _, e, _, 1, _) => thT.any fun t => t.1 == k && t.2.1 == pc && t.2.2.1 == x && t.2.2.2.1 == e
    | _ => true) && AllTh (k + 1) t
theorem thA : AllTh 0 cdL = true := by decide +kernel
theorem AllTh_at {k : Nat} {ls : List (List (Nat × Instr × Nat × Nat × Nat × Nat × List Nat))} (h : AllTh k ls = true) (j : Nat) : ∀ q ∈ ls.getD j [], (match q with
    | (pc, .new x, _, e, _, 1, _) => thT.any fun t => t.1 == (k + j) && t.2.1 == pc && t.2.2.1 == x && t.2.2.2.1 == e
    | _ => true) = true := by
  induction ls generalizing k j with
  | nil => intro q hq; simp at hq
  | cons l t ih =>
    simp only [AllTh, Bool.and_eq_true] at h
    cases j with
    | zero => exact fun q hq => List.all_eq_true.mp h.1 q hq
    | succ j =>
      have := ih h.2 j
      rw [show k + 1 + j = k + (j + 1) by omega] at this
      simpa using this
theorem cd_mem {k pc : Nat} {x : Instr × Nat × Nat × Nat × Nat × List Nat} (h : cd k pc = some x) : (pc, x) ∈ cdL.getD k [] := by
  unfold cd at h
  obtain ⟨q, hq, rfl⟩ := Option.map_eq_some_iff.mp h
  have h1 := List.mem_of_find?_eq_some hq
  have h2 := List.find?_some hq
  have h4 : q.1 = pc := by simpa using h2
  subst h4
  exact h1
theorem th_at {k pc x n e b : Nat} {ks : List Nat} (h : cd k pc = some (.new x, n, e, b, 1, ks)) : ∃ is ic w, (k, pc, x, e, is, ic, w) ∈ thT := by
  have h1 : (thT.any fun t => t.1 == (0 + k) && t.2.1 == pc && t.2.2.1 == x && t.2.2.2.1 == e) = true := AllTh_at thA k _ (cd_mem h)
  obtain ⟨t, ht, h2⟩ := List.any_eq_true.mp h1
  obtain ⟨k', pc', x', e', is, ic, w⟩ := t
  simp only [Bool.and_eq_true, beq_iff_eq, Nat.zero_add] at h2
  obtain ⟨⟨⟨rfl, rfl⟩, rfl⟩, rfl⟩ := h2
  exact ⟨is, ic, w, ht⟩
theorem xs_low {k : Nat} {p : Program} {l : Launch} {e : Env} {R : Room} {s : State} {m : MethodId} {args : Array Value} {below : List Frame} {meth : Method} {c : Code} {D : va_G} {ca : Nat → ClassId} {B b Ln : Nat} {xs : Nat → Int32} {QQ : State → Prop} {pc : Nat} {L : Lc} {st : List Value} {u : Nat × Nat} {g : Gp} {ks : List Nat} {fr : Prop} [Decidable fr]
    (h : XS k p l e R s m args below meth c D ca B b Ln xs QQ pc (killL L ks) st u (if fr then (true, g.2) else g)) : XS k p l e R s m args below meth c D ca B b Ln xs QQ pc L st u g := by
  intro H locs ls hl hw hS hE h1 h2
  refine h H locs ls (hl.kill ks) ?_ hS ?_ h1 h2
  · split <;> exact hw
  · split
    · exact fun e9 => absurd e9 (by simp)
    · exact hE
/-- what a throw asks of its surroundings -/
abbrev HThr (k : Nat) (p : Program) (l : Launch) (e : Env) (R : Room) (s : State) (m : MethodId) (args : Array Value) (below : List Frame) (meth : Method) (c : Code) (D : va_G) (ca : Nat → ClassId) (B b Ln : Nat) (xs : Nat → Int32) (QQ : State → Prop) (Q : Post) : Prop :=
  ∀ (pc x n e9 b9 : Nat) (ks : List Nat), cd k pc = some (.new x, n, e9, b9, 1, ks) → ∀ (g : Gp) (H : Heap) (locs : List Loc) (L : Lc) (ls : Array Slot) (st : List Value) (u : Nat × Nat), Q (.inr e9) g → g.1 = true → st.length ≤ 4 → LH B b ls (mxl k) L → WD D ca B b Ln xs g H → va_S (AB B) s.heap H locs → u.1 + 1 ≤ bc k → u.2 + 6 ≤ bs k →
    W p l e R s m args below meth c H locs u.1 u.2 QQ (F0 m pc ls (st.map (tr B b)))
section SND5
variable {k : Nat} {p : Program} {l : Launch} {e : Env} {R : Room} {s : State} {m : MethodId} {args : Array Value} {below : List Frame} {meth : Method} {c : Code} {D : va_G} {ca : Nat → ClassId} {B b Ln : Nat} {xs : Nat → Int32} {d : Nat} {QQ : State → Prop}
variable {C : CT} {Q : Post} {pc n a9 b9 c9 : Nat} {L : Lc} {st : List Value} {u : Nat × Nat} {g : Gp}

set_option maxHeartbeats 4000000 in
/-- every place that the interpreter says is good is good on the machine -/
theorem xs_all (F : FrC k p R s m args meth c D ca B b Ln xs (d + 1)) (hEX : EXF B s) (hC : HCal l C d) (hret : HRet k p l e R s m args below meth c D ca B b Ln xs QQ Q) (hthr : HThr k p l e R s m args below meth c D ca B b Ln xs QQ Q) (hex : HExc k p l e R s m args below meth c D ca B b Ln xs QQ Q)
    (h : EX C k Q pc L st u g) : XS k p l e R s m args below meth c D ca B b Ln xs QQ pc L st u g := by
  refine h (XS k p l e R s m args below meth c D ca B b Ln xs QQ) fun pc L st u g h => ?_
  unfold stp at h
  split at h
  · rename_i i n a9 b9 c9 ks hcd
    have hok := okC hcd
    have hok0 := hok
    simp only [okB, Bool.and_eq_true, decide_eq_true_eq, Bool.or_eq_true, beq_iff_eq] at hok0
    have hd := hok0.1.1
    have hn : isTS i = false → n = ilen i := fun e9 => hok0.1.2.resolve_right (by rw [e9]; simp)
    by_cases hth : ∃ x, i = .new x ∧ c9 = 1
    · obtain ⟨x, rfl, rfl⟩ := hth
      have h : u.1 + 1 ≤ bc k ∧ u.2 + 6 ≤ bs k ∧ st.length ≤ 4 ∧ (if ks.contains 1000 then (true, g.2) else g).1 = true ∧ Q (.inr a9) (if ks.contains 1000 then (true, g.2) else g) := h
      refine xs_low (ks := ks) (fr := ks.contains 1000 = true) ?_
      intro H locs ls hl hw hS hE h1 h2
      exact hthr pc x n a9 b9 ks hcd _ H locs _ ls st u h.2.2.2.2 h.2.2.2.1 h.2.2.1 hl hw hS h.1 h.2.1
    · refine xs_low (ks := ks) (fr := ks.contains 1000 = true) ?_
      rcases (show grp i = 0 ∨ grp i = 1 ∨ grp i = 2 ∨ grp i = 3 ∨ grp i = 4 by cases i <;> simp [grp]) with e9 | e9 | e9 | e9 | e9
      · refine xs_simple F hd hn ?_ ?_ e9 h
        · have h8 := hok0.2
          cases i <;> first | exact h8 | rfl | exact absurd e9 (by simp [grp])
        · rintro x rfl
          exact llgT_in _ (List.contains_iff_mem.mp hok0.2)
      · exact xs_heap F hok hd hn e9 h
      · exact xs_new F hok hd hn e9 (fun x e8 e7 => hth ⟨x, e8, e7⟩) h
      · exact xs_call F hEX hC hex hcd hok hd hn e9 h
      · exact xs_ret hret hd hn e9 h
  · exact h.elim
end SND5
