/-! ===== readings: their form; words by their ends ===== -/
theorem letO (v : Int32) : f_X8_letterOf v = if isLB v then v - 97 else if isSB v then v - 65 else -1 := by
  unfold f_X8_letterOf
  rw [f_letter, f_shared]
  cases isLB v <;> cases isSB v <;> rfl
theorem isLB_iff {v : Int32} : isLB v = true ↔ 97 ≤ v ∧ v ≤ 122 := by
  unfold isLB; rw [Bool.and_eq_true, decide_eq_true_iff, decide_eq_true_iff]
theorem isSB_iff {v : Int32} : isSB v = true ↔ 65 ≤ v ∧ v ≤ 90 := by
  unfold isSB; rw [Bool.and_eq_true, decide_eq_true_iff, decide_eq_true_iff]
theorem i32_sub_inj {a b c : Int32} (h : a - c = b - c) : a = b := by
  have := congrArg (· + c) h
  simpa using this
theorem let_ne {v : Int32} (h : 97 ≤ v) : v - 97 ≠ -1 := by
  intro e
  have h1 := congrArg (· + (97 : Int32)) e
  have h2 : v = 96 := by simpa using h1
  rw [h2] at h
  exact absurd h (by decide)
theorem let_ne2 {v : Int32} (h : 65 ≤ v) : v - 65 ≠ -1 := by
  intro e
  have h1 := congrArg (· + (65 : Int32)) e
  have h2 : v = 64 := by simpa using h1
  rw [h2] at h
  exact absurd h (by decide)
theorem letO_N {v : Int32} : f_X8_letterOf v = -1 ↔ isRB v = false := by
  rw [letO]
  unfold isRB
  cases e : isLB v with
  | true => simp; exact let_ne (isLB_iff.mp e).1
  | false =>
    cases e2 : isSB v with
    | true => simp; exact let_ne2 (isSB_iff.mp e2).1
    | false => simp
theorem not_both {v : Int32} (h : isSB v = true) : isLB v = false := by
  cases e : isLB v with
  | false => rfl
  | true =>
    have h1 := (isSB_iff.mp h).2
    have h2 := (isLB_iff.mp e).1
    exact absurd (Int32.le_trans h2 h1) (by decide)
theorem lt97 {v : Int32} (h : isRB v = true) : v < 97 ↔ isSB v = true := by
  unfold isRB at h
  constructor
  · intro q
    cases e : isSB v with
    | true => rfl
    | false =>
      rw [e, Bool.or_false] at h
      exact absurd q (Int32.not_lt.mpr (isLB_iff.mp h).1)
  · intro q
    exact Int32.lt_of_le_of_lt (isSB_iff.mp q).2 (by decide)
/-- what a rune gives -/
def runL (st : List Int32 × Bool) (v : Int32) : List Int32 := st.1 ++ ((if st.2 = true ∧ st.1 ≠ [] then [32] else []) ++ (97 + f_X8_letterOf v) :: (if isSB v = true then [32, 97 + f_X8_letterOf v] else []))
theorem add97 (v c : Int32) : v - c + 97 = 97 + (v - c) := Int32.add_comm _ _
theorem takeC_no {st : List Int32 × Bool} {v : Int32} (h : isRB v = false) : takeC st v = (st.1, st.2 || decide (v = 58)) := by
  unfold isRB at h
  rw [Bool.or_eq_false_iff] at h
  unfold takeC
  rw [h.1, h.2, if_neg (by decide), if_neg (by decide)]
  by_cases e : v = 58
  · rw [if_pos e, decide_eq_true e, Bool.or_true]
  · rw [if_neg e, decide_eq_false e, Bool.or_false]
theorem addL_eq2 (st : List Int32 × Bool) (l : Int32) : addL st l = (st.1 ++ ((if st.2 = true ∧ st.1 ≠ [] then [32] else []) ++ [l]), false) := by
  unfold addL
  by_cases h : st.2 = true ∧ st.1 ≠ []
  · rw [if_pos h, if_pos h]; rfl
  · rw [if_neg h, if_neg h]; rfl
theorem takeC_run {st : List Int32 × Bool} {v : Int32} (h : isRB v = true) : takeC st v = (runL st v, false) := by
  unfold runL
  by_cases e : isSB v = true
  · have e2 := not_both e
    have hl : f_X8_letterOf v = v - 65 := by rw [letO, e2, e]; rfl
    unfold takeC
    rw [e2, if_neg (by decide), e, if_pos rfl, hl, add97, addL_eq2, addL_eq2]
    have hne : (st.1 ++ ((if st.2 = true ∧ st.1 ≠ [] then [32] else []) ++ [97 + (v - 65)])) ≠ [] := by simp
    dsimp only
    rw [if_pos (show true = true ∧ _ from ⟨rfl, hne⟩), if_pos rfl]
    simp
  · have e' : isSB v = false := by simpa using e
    have e2 : isLB v = true := by unfold isRB at h; rw [e', Bool.or_false] at h; exact h
    have hl : f_X8_letterOf v = v - 97 := by rw [letO, e2]; rfl
    have hv : 97 + (v - 97) = v := by rw [← add97]; simp
    unfold takeC
    rw [e2, if_pos rfl, addL_eq2, hl, hv, if_neg e]
/-- the letters that a reading has -/
def isW (v : Int32) : Prop := 97 ≤ v ∧ v ≤ 122
theorem run_let {v : Int32} (h : isRB v = true) : isW (97 + f_X8_letterOf v) := by
  unfold isRB at h
  rw [letO]
  cases e : isLB v with
  | true =>
    have hv : 97 + (v - 97) = v := by rw [← add97]; simp
    rw [if_pos rfl, hv]
    exact isLB_iff.mp e
  | false =>
    rw [e, Bool.false_or] at h
    rw [if_neg (by decide), h, if_pos rfl]
    obtain ⟨h1, h2⟩ := isSB_iff.mp h
    have key : ∀ n : Nat, 65 ≤ n → n ≤ 90 → isW (97 + (Int32.ofNat n - 65)) := by
      have : ∀ n, n < 91 → 65 ≤ n → isW (97 + (Int32.ofNat n - 65)) := by unfold isW; decide +kernel
      exact fun n a b => this n (by omega) a
    obtain ⟨n1, n2⟩ := nn_nat (Int32.le_trans (by decide : (0 : Int32) ≤ 65) h1)
    rw [n1]
    rw [n1] at h1 h2
    exact key _ ((oN_le (a := 65) (by decide) n2).mp h1) ((oN_le (b := 90) n2 (by decide)).mp h2)
/-- letters, and single gaps between words -/
def WFr (l : List Int32) : Prop := (∀ i, i < l.length → l.getD i 0 = 32 ∨ isW (l.getD i 0)) ∧ ∀ i, i < l.length → l.getD i 0 = 32 → 0 < i ∧ i + 1 < l.length ∧ isW (l.getD (i + 1) 0) 
theorem isW_32 {v : Int32} (h : isW v) : v ≠ 32 := by
  intro e; rw [e] at h; exact absurd h.1 (by decide)
theorem gD_app (l : List Int32) (m : List Int32) {k : Nat} (h : k < l.length) : (l ++ m).getD k 0 = l.getD k 0 := by
  simp [List.getD, List.getElem?_append, h]
theorem gD_app' (l : List Int32) (m : List Int32) (k : Nat) : (l ++ m).getD (l.length + k) 0 = m.getD k 0 := by
  show ((l ++ m)[l.length + k]?).getD 0 = (m[k]?).getD 0
  rw [List.getElem?_append_right (Nat.le_add_right _ _), Nat.add_sub_cancel_left]
theorem WFr.nil : WFr [] := ⟨fun i h => absurd h (Nat.not_lt_zero i), fun i h => absurd h (Nat.not_lt_zero i)⟩
theorem WFr.let {l : List Int32} {x : Int32} (h : WFr l) (hx : isW x) : WFr (l ++ [x]) := by
  refine ⟨fun i hi => ?_, fun i hi e => ?_⟩
  · by_cases q : i < l.length
    · rw [gD_app _ _ q]; exact h.1 i q
    · have : i = l.length + 0 := by simp at hi; omega
      subst this
      rw [gD_app']; exact Or.inr hx
  · by_cases q : i < l.length
    · rw [gD_app _ _ q] at e
      obtain ⟨a, b, c⟩ := h.2 i q e
      refine ⟨a, by simp; omega, ?_⟩
      rw [gD_app _ _ b]; exact c
    · have : i = l.length + 0 := by simp at hi; omega
      subst this
      rw [gD_app'] at e
      exact absurd e (isW_32 hx)
theorem WFr.gap {l : List Int32} {x : Int32} (h : WFr l) (hl : l ≠ []) (hx : isW x) : WFr (l ++ [32, x]) := by
  have h0 := List.length_pos_iff.mpr hl
  have ha : ∀ i, i < (l ++ [32, x]).length → i < l.length ∨ i = l.length + 0 ∨ i = l.length + 1 := fun i hi => by simp at hi; omega
  refine ⟨fun i hi => ?_, fun i hi e => ?_⟩
  · rcases ha i hi with q | rfl | rfl
    · rw [gD_app _ _ q]; exact h.1 i q
    · rw [gD_app']; exact Or.inl rfl
    · rw [gD_app']; exact Or.inr hx
  · rcases ha i hi with q | rfl | rfl
    · rw [gD_app _ _ q] at e
      obtain ⟨a, b, c⟩ := h.2 i q e
      refine ⟨a, by simp; omega, ?_⟩
      rw [gD_app _ _ b]; exact c
    · refine ⟨by omega, by simp, ?_⟩
      rw [show l.length + 0 + 1 = l.length + 1 by omega, gD_app']; exact hx
    · rw [gD_app'] at e
      exact absurd e (isW_32 hx)
theorem WFr.run {st : List Int32 × Bool} {v : Int32} (h : WFr st.1) (hv : isRB v = true) : WFr (runL st v) := by
  have hx := run_let hv
  unfold runL
  generalize 97 + f_X8_letterOf v = x at *
  have h1 : WFr (st.1 ++ ((if st.2 = true ∧ st.1 ≠ [] then [32] else []) ++ [x])) := by
    by_cases e : st.2 = true ∧ st.1 ≠ []
    · rw [if_pos e]; exact h.gap e.2 hx
    · rw [if_neg e]; exact h.let hx
  by_cases e : isSB v = true
  · rw [if_pos e]
    have h2 := h1.gap (by simp) hx
    have e3 : st.1 ++ ((if st.2 = true ∧ st.1 ≠ [] then [32] else []) ++ [x]) ++ [32, x] = st.1 ++ ((if st.2 = true ∧ st.1 ≠ [] then [32] else []) ++ x :: [32, x]) := by simp
    rw [← e3]
    exact h2
  · rw [if_neg e]; exact h1
theorem rdW_WF (f : Nat → Int32) : ∀ n, WFr (rdW f n).1 := by
  intro n
  induction n with
  | zero => exact WFr.nil
  | succ n ih =>
    show WFr (takeC (rdW f n) (f n)).1
    cases e : isRB (f n) with
    | true => rw [takeC_run e]; exact ih.run e
    | false => rw [takeC_no e]; exact ih
theorem takeC_pre (st : List Int32 × Bool) (v : Int32) : ∃ m, (takeC st v).1 = st.1 ++ m := by
  cases e : isRB v with
  | true => rw [takeC_run e]; exact ⟨_, rfl⟩
  | false => rw [takeC_no e]; exact ⟨[], (List.append_nil _).symm⟩
theorem rdW_pre (f : Nat → Int32) {k n : Nat} (h : k ≤ n) : ∃ m, (rdW f n).1 = (rdW f k).1 ++ m := by
  induction n with
  | zero =>
    obtain rfl : k = 0 := by omega
    exact ⟨[], (List.append_nil _).symm⟩
  | succ n ih =>
    by_cases e : k = n + 1
    · subst e; exact ⟨[], (List.append_nil _).symm⟩
    · obtain ⟨m, hm⟩ := ih (by omega)
      obtain ⟨m2, hm2⟩ := takeC_pre (rdW f n) (f n)
      refine ⟨m ++ m2, ?_⟩
      show (takeC _ _).1 = _
      rw [hm2, hm, List.append_assoc]
/-- a byte of a reading, by number -/
theorem rdB_at {l : List Int32} (hl : l.length ≤ 294) {i : Nat} (hi : i < l.length) : rdB l (Int32.ofNat i) = l.getD i 0 := by
  unfold rdB
  rw [if_neg (le_n hi (by omega)), oN_clamp (by omega)]
theorem rdB_end {l : List Int32} (hl : l.length ≤ 294) : rdB l (Int32.ofNat l.length) = -1 := by
  unfold rdB
  rw [if_pos (Int32.le_refl _)]
/-! the words of a reading counted from end to end -/
theorem scS_scan {r : Nat → Int32} {n : Nat} {lst : Nat → Nat → Bool} {s : Nat} : ∀ {t : Nat}, s ≤ t → t ≤ n → (∀ j, s ≤ j → j < t → r j ≠ 32) → scS r n lst t = scS r n lst s := by
  intro t
  induction t with
  | zero => intro h _ _; rw [show s = 0 by omega]
  | succ t ih =>
    intro h1 h2 h3
    by_cases e : s = t + 1
    · rw [e]
    · rw [← ih (by omega) (by omega) (fun j a b => h3 j a (by omega))]
      show (if t = n ∨ r t = 32 then _ else scS r n lst t) = _
      rw [if_neg]
      rintro (q | q)
      · omega
      · exact h3 t (by omega) (by omega) q
theorem scS_word {r : Nat → Int32} {n : Nat} {lst : Nat → Nat → Bool} {t a b s : Nat} (h : scS r n lst t = (a, b, s)) (hs : s < t) (ht : t = n ∨ r t = 32) : scS r n lst (t + 1) = (a + 1, b + (if lst s (t - s) then 1 else 0), t + 1) := by
  show (if t = n ∨ r t = 32 then _ else _) = _
  rw [if_pos ht, h, if_pos hs]
/-- whether a word of the list stands at a place: letter by letter, to the eighth -/
def lkB (w : Wds) (r : Nat → Int32) (s len i : Nat) : Bool := decide (len < 9) && allB (fun k => decide ((if w.2.1 i ≤ k then (-1 : Int32) else w.2.2 i k - 97) = (if k < len then r (s + k) - 97 else -1))) 8
theorem lkB_eq {w : Wds} {r : Nat → Int32} {s len i : Nat} (h8 : 1 ≤ w.2.1 i ∧ w.2.1 i ≤ 8) (hl : ∀ k, k < w.2.1 i → isLB (w.2.2 i k) = true) (hr : ∀ k, k < len → isW (r (s + k))) : lkB w r s len i = wEq w r s len i := by
  have key : lkB w r s len i = true ↔ wEq w r s len i = true := by
    unfold lkB wEq
    rw [Bool.and_eq_true, Bool.and_eq_true, allB_iff, allB_iff, decide_eq_true_iff, decide_eq_true_iff]
    constructor
    · rintro ⟨h1, h2⟩
      have e : w.2.1 i = len := by
        apply Classical.byContradiction
        intro ne
        by_cases q : w.2.1 i < len
        · have h3 := of_decide_eq_true (h2 (w.2.1 i) (by omega))
          rw [if_pos (Nat.le_refl _), if_pos q] at h3
          exact let_ne (hr _ q).1 h3.symm
        · have h3 := of_decide_eq_true (h2 len (by omega))
          rw [if_neg (by omega), if_neg (Nat.lt_irrefl _)] at h3
          exact let_ne (isLB_iff.mp (hl len (by omega))).1 h3
      refine ⟨e, fun k hk => decide_eq_true ?_⟩
      have h3 := of_decide_eq_true (h2 k (by omega))
      rw [if_neg (by omega), if_pos (by omega)] at h3
      exact i32_sub_inj h3
    · rintro ⟨h1, h2⟩
      refine ⟨by omega, fun k _ => decide_eq_true ?_⟩
      by_cases q : k < len
      · rw [if_neg (by omega), if_pos q, of_decide_eq_true (h2 k (by omega))]
      · rw [if_pos (by omega), if_neg q]
  cases e : wEq w r s len i with
  | true => exact key.mpr e
  | false =>
    cases e2 : lkB w r s len i with
    | false => rfl
    | true => rw [key.mp e2] at e; cases e
theorem wRx_at (w : Wds) {i k : Nat} (hi : i < 2 ^ 31) (hk : k < 2 ^ 31) (h8 : w.2.1 i ≤ 8) : wRx w (Int32.ofNat i) (Int32.ofNat k) = if w.2.1 i ≤ k then -1 else w.2.2 i k - 97 := by
  unfold wRx
  rw [oN_clamp hi, oN_clamp hk]
  by_cases e : w.2.1 i ≤ k
  · rw [if_pos ((oN_le (by omega) hk).mpr e), if_pos e]
  · rw [if_neg (fun q => e ((oN_le (by omega) hk).mp q)), if_neg e]
