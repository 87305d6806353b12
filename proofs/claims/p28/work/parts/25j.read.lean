/-! ===== a reading: its bytes, by the class ===== -/
def addL (st : List Int32 × Bool) (l : Int32) : List Int32 × Bool := if st.2 = true ∧ st.1 ≠ [] then (st.1 ++ [32, l], false) else (st.1 ++ [l], false)
def takeC (st : List Int32 × Bool) (v : Int32) : List Int32 × Bool :=
  if isLB v then addL st v else if isSB v then addL ((addL st (v - 65 + 97)).1, true) (v - 65 + 97) else if v = 58 then (st.1, true) else st
def rdW (f : Nat → Int32) : Nat → List Int32 × Bool
  | 0 => ([], false)
  | n + 1 => takeC (rdW f n) (f n)
def rlen (st : List Int32 × Bool) : Nat := st.1.length + (if st.2 then 1 else 0)
theorem addL_len (st : List Int32 × Bool) (l : Int32) : rlen (addL st l) ≤ rlen st + 1 ∧ (addL st l).1.length ≤ rlen st + 1 ∧ (addL st l).2 = false := by
  unfold addL rlen
  by_cases h : st.2 = true ∧ st.1 ≠ []
  · rw [if_pos h]
    simp [h.1]
  · rw [if_neg h]
    simp
theorem takeC_len (st : List Int32 × Bool) (v : Int32) : rlen (takeC st v) ≤ rlen st + 3 := by
  unfold takeC
  split
  · have := (addL_len st v).1; omega
  · split
    · have h1 := addL_len st (v - 65 + 97)
      have h2 := addL_len ((addL st (v - 65 + 97)).1, true) (v - 65 + 97)
      have h3 : rlen ((addL st (v - 65 + 97)).1, true) = (addL st (v - 65 + 97)).1.length + 1 := rfl
      omega
    · split
      · show st.1.length + 1 ≤ _
        unfold rlen
        omega
      · omega
theorem rdW_len (f : Nat → Int32) (n : Nat) : rlen (rdW f n) ≤ 3 * n := by
  induction n with
  | zero => exact Nat.le_refl _
  | succ n ih =>
    have := takeC_len (rdW f n) (f n)
    show rlen (takeC _ _) ≤ _
    omega
theorem gD_app1 (l : List Int32) (v : Int32) {k : Nat} (h : k < l.length) : (l ++ [v]).getD k 0 = l.getD k 0 := by
  simp [List.getD, List.getElem?_append, h]
theorem gD_app2 (l : List Int32) (v : Int32) : (l ++ [v]).getD l.length 0 = v := by
  simp [List.getD]
def LSt (I : HI) (l : List Int32) : Prop := I 53 1 = Int32.ofNat l.length ∧ ∀ k, k < l.length → I 54 k = l.getD k 0
def RSt (I : HI) (st : List Int32 × Bool) : Prop := LSt I st.1 ∧ I 53 2 = b2 st.2
def pushI (I : HI) (v : Int32) : HI := w2 (pI2 I 54 294 (I 53 1) v) 53 1 (I 53 1 + 1)
def RFr (I0 I : HI) : Prop := ∀ a, a ≠ 53 → a ≠ 54 → I a = I0 a
theorem push_ok {I : HI} {l : List Int32} {v : Int32} (h : LSt I l) (hl : l.length < 294) : LSt (pushI I v) (l ++ [v]) ∧ RFr I (pushI I v) ∧ pushI I v 53 2 = I 53 2 := by
  unfold pushI
  rw [h.1, pI2_oN hl (by decide)]
  refine ⟨⟨?_, fun k hk => ?_⟩, fun a h1 h2 => ?_, ?_⟩
  · rw [w2_at, if_pos ⟨rfl, rfl⟩, oN_succ]; simp
  · rw [w2_ne _ _ (by decide), w2_at]
    by_cases e : k = l.length
    · subst e
      rw [if_pos ⟨rfl, rfl⟩, gD_app2]
    · have hk2 : k < l.length := by simp at hk; omega
      rw [if_neg (fun q => e q.2), gD_app1 _ _ hk2]
      exact h.2 k hk2
  · rw [w2_other _ _ _ h1, w2_other _ _ _ h2]
  · rw [w2_at, if_neg (by decide), w2_ne _ _ (by decide)]
theorem LSt.w {I : HI} {l : List Int32} (h : LSt I l) (v : Int32) : LSt (w2 I 53 2 v) l := ⟨by rw [w2_at, if_neg (by decide)]; exact h.1, fun k hk => by rw [w2_ne _ _ (by decide)]; exact h.2 k hk⟩
theorem RFr.tr {I0 I1 I2 : HI} (h : RFr I0 I1) (h2 : RFr I1 I2) : RFr I0 I2 := fun a q1 q2 => (h2 a q1 q2).trans (h a q1 q2)
theorem RFr.w {I0 I : HI} (h : RFr I0 I) {k : Nat} (v : Int32) : RFr I0 (w2 I 53 k v) := fun a q1 q2 => by rw [w2_other _ _ _ q1]; exact h a q1 q2
theorem RFr.rf (I : HI) : RFr I I := fun _ _ _ => rfl
theorem addL_eq (p : Int32) (I : HI) : fI_X3_addLetter p I = if I 53 2 = 0 then pushI (w2 I 53 2 0) p else if I 53 1 ≤ 0 then pushI (w2 I 53 2 0) p else pushI (w2 (pushI I 32) 53 2 0) p := rfl
theorem addL_ok {I : HI} {st : List Int32 × Bool} {l : Int32} (h : RSt I st) (hl : (addL st l).1.length ≤ 294) : RSt (fI_X3_addLetter l I) (addL st l) ∧ RFr I (fI_X3_addLetter l I) := by
  rw [addL_eq, h.2]
  have hw := (h.1.w 0)
  have h0 : (w2 I 53 2 0) 53 2 = 0 := by rw [w2_at, if_pos ⟨rfl, rfl⟩]
  by_cases e : st.2 = true
  · rw [e, if_neg (by decide)]
    by_cases e2 : st.1 = []
    · have hl2 : (addL st l).1.length = st.1.length + 1 := by unfold addL; rw [if_neg (fun q => q.2 e2)]; simp
      rw [if_pos (by rw [h.1.1, e2]; decide)]
      obtain ⟨a, b, c⟩ := push_ok (v := l) hw (by omega)
      unfold addL
      rw [if_neg (fun q => q.2 e2)]
      exact ⟨⟨a, c.trans h0⟩, ((RFr.rf I).w 0).tr b⟩
    · have hn : 0 < st.1.length := List.length_pos_iff.mpr e2
      have hl2 : (addL st l).1.length = st.1.length + 2 := by unfold addL; rw [if_pos ⟨e, e2⟩]; simp
      rw [if_neg (by rw [h.1.1]; exact le_n hn (by omega))]
      obtain ⟨a, b, c⟩ := push_ok (v := 32) h.1 (by omega)
      have hw2 := a.w 0
      obtain ⟨a2, b2, c2⟩ := push_ok (v := l) hw2 (by simp; omega)
      have h02 : (w2 (pushI I 32) 53 2 0) 53 2 = 0 := by rw [w2_at, if_pos ⟨rfl, rfl⟩]
      unfold addL
      rw [if_pos ⟨e, e2⟩]
      refine ⟨⟨?_, c2.trans h02⟩, (b.w 0).tr b2⟩
      rw [List.append_assoc] at a2
      exact a2
  · have e' : st.2 = false := by simpa using e
    have hl2 : (addL st l).1.length = st.1.length + 1 := by unfold addL; rw [if_neg (fun q => e q.1)]; simp
    rw [e', if_pos (by decide)]
    obtain ⟨a, b, c⟩ := push_ok (v := l) hw (by omega)
    unfold addL
    rw [if_neg (fun q => e q.1)]
    exact ⟨⟨a, c.trans h0⟩, ((RFr.rf I).w 0).tr b⟩
theorem takeC_eq (p : Int32) (I : HI) : fI_X3_takeCell p I = if b2 (isLB p) = 0 then (if b2 (isSB p) = 0 then (if p = 58 then w2 I 53 2 1 else I) else fI_X3_addLetter ((p - 65) + 97) (w2 (fI_X3_addLetter ((p - 65) + 97) I) 53 2 1)) else fI_X3_addLetter p I := by
  unfold fI_X3_takeCell
  rw [f_letter, f_shared]
theorem takeC_ok {I : HI} {st : List Int32 × Bool} {v : Int32} (h : RSt I st) (hl : rlen st + 3 ≤ 294) : RSt (fI_X3_takeCell v I) (takeC st v) ∧ RFr I (fI_X3_takeCell v I) := by
  rw [takeC_eq]
  unfold takeC
  by_cases e1 : isLB v = true
  · rw [e1, if_neg (by decide), if_pos rfl]
    have := (addL_len st v).2.1
    exact addL_ok h (by omega)
  · have e1' : isLB v = false := by simpa using e1
    rw [e1', if_pos (show b2 false = 0 from rfl), if_neg (show ¬ (false = true) from Bool.false_ne_true)]
    by_cases e2 : isSB v = true
    · rw [e2, if_neg (by decide), if_pos rfl]
      have q1 := addL_len st (v - 65 + 97)
      obtain ⟨a, b⟩ := addL_ok (l := v - 65 + 97) h (by omega)
      have a2 : RSt (w2 (fI_X3_addLetter (v - 65 + 97) I) 53 2 1) ((addL st (v - 65 + 97)).1, true) := ⟨a.1.w 1, by rw [w2_at, if_pos ⟨rfl, rfl⟩]; rfl⟩
      have q2 := addL_len ((addL st (v - 65 + 97)).1, true) (v - 65 + 97)
      have q3 : rlen ((addL st (v - 65 + 97)).1, true) = (addL st (v - 65 + 97)).1.length + 1 := rfl
      obtain ⟨a3, b3⟩ := addL_ok (l := v - 65 + 97) a2 (by omega)
      exact ⟨a3, (b.w 1).tr b3⟩
    · have e2' : isSB v = false := by simpa using e2
      rw [e2', if_pos (show b2 false = 0 from rfl), if_neg (show ¬ (false = true) from Bool.false_ne_true)]
      by_cases e3 : v = 58
      · rw [if_pos e3, if_pos e3]
        exact ⟨⟨h.1.w 1, by rw [w2_at, if_pos ⟨rfl, rfl⟩]; rfl⟩, (RFr.rf I).w 1⟩
      · rw [if_neg e3, if_neg e3]
        exact ⟨h, RFr.rf I⟩
section TKE
variable {d nn Ln : Nat} {fz : Nat} {K : Post} {I : HI} {J : HJ} {W H : Nat} {C : Cel} {g : Nat}
theorem sp_take (hn : 59 ≤ nn) (hS : StC I W H C) (hg : g < 2 * (W + H)) (hln : I 38 g = Int32.ofNat (bN W H C g)) (hpa : ∀ j, j < bN W H C g → I 43 (98 * g + j) = Int32.ofNat (pC W H C g j))
    (hK : ∀ I', RFr I I' → RSt I' (rdW (fun i => C (pC W H C g i)) (bN W H C g)) → K (.inl none) (hp fz nn (lay Ln) I' J)) : cal (d + 5) 31 [.ref 53, .ref 2, .ref 35, .int (Int32.ofNat g)] (hp fz nn (lay Ln) I J) K := by
  have hb := hS.1.g28
  have hWH := hS.1.n
  have hW := hS.W0
  have hH := hS.H0
  have hbn := bN_le (C := C) hW hH hg
  have lp : ∀ (m i : Nat) (I' : HI), i + m = bN W H C g → RFr I I' → RSt I' (rdW (fun i => C (pC W H C g i)) i) →
      EX (cal (d + 4)) 31 K 13 [some (.ref 53), some (.ref 2), some (.ref 35), some (.int (Int32.ofNat g)), some (.int (Int32.ofNat i))] [] (0, 0) (hp fz nn (lay Ln) I' J) := by
    intro m
    induction m with
    | zero =>
      intro i I' hi hf hr
      obtain rfl : i = bN W H C g := hi
      refine r_31_13 hn (if_y ?_ (hK I' hf hr))
      rw [hf 38 (by decide) (by decide), atI_oN (by omega) (by decide), hln]
      exact Int32.le_refl _
    | succ m ih =>
      intro i I' hi hf hr
      have hS' : StC I' W H C := hS.mono (hf 2 (by decide) (by decide)) (hf 3 (by decide) (by decide))
      refine r_31_13 hn (if_n ?_ ?_)
      · rw [hf 38 (by decide) (by decide), atI_oN (by omega) (by decide), hln]
        exact le_n (by omega) (by omega)
      · rw [path_at (v := pC W H C g i) (by omega) (by omega) (by rw [hf 43 (by decide) (by decide)]; exact hpa i (by omega)), hS'.byt (pC_lt hW hH hg (by omega)), oN_succ]
        have hl := rdW_len (fun i => C (pC W H C g i)) i
        obtain ⟨a, b⟩ := takeC_ok (v := C (pC W H C g i)) hr (by omega)
        exact ih (i + 1) _ (by omega) (hf.tr b) a
  refine call_in (Nat.le_of_ble_eq_true rfl) rfl rfl (r_31_0 hn (lp (bN W H C g) 0 _ (by omega) (((RFr.rf I).w 0).w 0) ⟨⟨?_, fun k hk => absurd hk (by show ¬ k < 0; omega)⟩, ?_⟩))
  · rw [w2_at, if_neg (by decide), w2_at, if_pos ⟨rfl, rfl⟩]; rfl
  · rw [w2_at, if_pos ⟨rfl, rfl⟩]; rfl
end TKE
def LStb (I : HI) (l : List Int32) : Prop := I 55 1 = Int32.ofNat l.length ∧ ∀ k, k < l.length → I 56 k = l.getD k 0
def RStb (I : HI) (st : List Int32 × Bool) : Prop := LStb I st.1 ∧ I 55 2 = b2 st.2
def pushIb (I : HI) (v : Int32) : HI := w2 (pI2 I 56 294 (I 55 1) v) 55 1 (I 55 1 + 1)
def RFrb (I0 I : HI) : Prop := ∀ a, a ≠ 55 → a ≠ 56 → I a = I0 a
theorem push_okb {I : HI} {l : List Int32} {v : Int32} (h : LStb I l) (hl : l.length < 294) : LStb (pushIb I v) (l ++ [v]) ∧ RFrb I (pushIb I v) ∧ pushIb I v 55 2 = I 55 2 := by
  unfold pushIb
  rw [h.1, pI2_oN hl (by decide)]
  refine ⟨⟨?_, fun k hk => ?_⟩, fun a h1 h2 => ?_, ?_⟩
  · rw [w2_at, if_pos ⟨rfl, rfl⟩, oN_succ]; simp
  · rw [w2_ne _ _ (by decide), w2_at]
    by_cases e : k = l.length
    · subst e
      rw [if_pos ⟨rfl, rfl⟩, gD_app2]
    · have hk2 : k < l.length := by simp at hk; omega
      rw [if_neg (fun q => e q.2), gD_app1 _ _ hk2]
      exact h.2 k hk2
  · rw [w2_other _ _ _ h1, w2_other _ _ _ h2]
  · rw [w2_at, if_neg (by decide), w2_ne _ _ (by decide)]
theorem LStb.w {I : HI} {l : List Int32} (h : LStb I l) (v : Int32) : LStb (w2 I 55 2 v) l := ⟨by rw [w2_at, if_neg (by decide)]; exact h.1, fun k hk => by rw [w2_ne _ _ (by decide)]; exact h.2 k hk⟩
theorem RFrb.tr {I0 I1 I2 : HI} (h : RFrb I0 I1) (h2 : RFrb I1 I2) : RFrb I0 I2 := fun a q1 q2 => (h2 a q1 q2).trans (h a q1 q2)
theorem RFrb.w {I0 I : HI} (h : RFrb I0 I) {k : Nat} (v : Int32) : RFrb I0 (w2 I 55 k v) := fun a q1 q2 => by rw [w2_other _ _ _ q1]; exact h a q1 q2
theorem RFrb.rf (I : HI) : RFrb I I := fun _ _ _ => rfl
theorem addL_eqb (p : Int32) (I : HI) : fI_X3_addLetterb p I = if I 55 2 = 0 then pushIb (w2 I 55 2 0) p else if I 55 1 ≤ 0 then pushIb (w2 I 55 2 0) p else pushIb (w2 (pushIb I 32) 55 2 0) p := rfl
theorem addL_okb {I : HI} {st : List Int32 × Bool} {l : Int32} (h : RStb I st) (hl : (addL st l).1.length ≤ 294) : RStb (fI_X3_addLetterb l I) (addL st l) ∧ RFrb I (fI_X3_addLetterb l I) := by
  rw [addL_eqb, h.2]
  have hw := (h.1.w 0)
  have h0 : (w2 I 55 2 0) 55 2 = 0 := by rw [w2_at, if_pos ⟨rfl, rfl⟩]
  by_cases e : st.2 = true
  · rw [e, if_neg (by decide)]
    by_cases e2 : st.1 = []
    · have hl2 : (addL st l).1.length = st.1.length + 1 := by unfold addL; rw [if_neg (fun q => q.2 e2)]; simp
      rw [if_pos (by rw [h.1.1, e2]; decide)]
      obtain ⟨a, b, c⟩ := push_okb (v := l) hw (by omega)
      unfold addL
      rw [if_neg (fun q => q.2 e2)]
      exact ⟨⟨a, c.trans h0⟩, ((RFrb.rf I).w 0).tr b⟩
    · have hn : 0 < st.1.length := List.length_pos_iff.mpr e2
      have hl2 : (addL st l).1.length = st.1.length + 2 := by unfold addL; rw [if_pos ⟨e, e2⟩]; simp
      rw [if_neg (by rw [h.1.1]; exact le_n hn (by omega))]
      obtain ⟨a, b, c⟩ := push_okb (v := 32) h.1 (by omega)
      have hw2 := a.w 0
      obtain ⟨a2, b2, c2⟩ := push_okb (v := l) hw2 (by simp; omega)
      have h02 : (w2 (pushIb I 32) 55 2 0) 55 2 = 0 := by rw [w2_at, if_pos ⟨rfl, rfl⟩]
      unfold addL
      rw [if_pos ⟨e, e2⟩]
      refine ⟨⟨?_, c2.trans h02⟩, (b.w 0).tr b2⟩
      rw [List.append_assoc] at a2
      exact a2
  · have e' : st.2 = false := by simpa using e
    have hl2 : (addL st l).1.length = st.1.length + 1 := by unfold addL; rw [if_neg (fun q => e q.1)]; simp
    rw [e', if_pos (by decide)]
    obtain ⟨a, b, c⟩ := push_okb (v := l) hw (by omega)
    unfold addL
    rw [if_neg (fun q => e q.1)]
    exact ⟨⟨a, c.trans h0⟩, ((RFrb.rf I).w 0).tr b⟩
theorem takeC_eqb (p : Int32) (I : HI) : fI_X3_takeCellb p I = if b2 (isLB p) = 0 then (if b2 (isSB p) = 0 then (if p = 58 then w2 I 55 2 1 else I) else fI_X3_addLetterb ((p - 65) + 97) (w2 (fI_X3_addLetterb ((p - 65) + 97) I) 55 2 1)) else fI_X3_addLetterb p I := by
  unfold fI_X3_takeCellb
  rw [f_letter, f_shared]
theorem takeC_okb {I : HI} {st : List Int32 × Bool} {v : Int32} (h : RStb I st) (hl : rlen st + 3 ≤ 294) : RStb (fI_X3_takeCellb v I) (takeC st v) ∧ RFrb I (fI_X3_takeCellb v I) := by
  rw [takeC_eqb]
  unfold takeC
  by_cases e1 : isLB v = true
  · rw [e1, if_neg (by decide), if_pos rfl]
    have := (addL_len st v).2.1
    exact addL_okb h (by omega)
  · have e1' : isLB v = false := by simpa using e1
    rw [e1', if_pos (show b2 false = 0 from rfl), if_neg (show ¬ (false = true) from Bool.false_ne_true)]
    by_cases e2 : isSB v = true
    · rw [e2, if_neg (by decide), if_pos rfl]
      have q1 := addL_len st (v - 65 + 97)
      obtain ⟨a, b⟩ := addL_okb (l := v - 65 + 97) h (by omega)
      have a2 : RStb (w2 (fI_X3_addLetterb (v - 65 + 97) I) 55 2 1) ((addL st (v - 65 + 97)).1, true) := ⟨a.1.w 1, by rw [w2_at, if_pos ⟨rfl, rfl⟩]; rfl⟩
      have q2 := addL_len ((addL st (v - 65 + 97)).1, true) (v - 65 + 97)
      have q3 : rlen ((addL st (v - 65 + 97)).1, true) = (addL st (v - 65 + 97)).1.length + 1 := rfl
      obtain ⟨a3, b3⟩ := addL_okb (l := v - 65 + 97) a2 (by omega)
      exact ⟨a3, (b.w 1).tr b3⟩
    · have e2' : isSB v = false := by simpa using e2
      rw [e2', if_pos (show b2 false = 0 from rfl), if_neg (show ¬ (false = true) from Bool.false_ne_true)]
      by_cases e3 : v = 58
      · rw [if_pos e3, if_pos e3]
        exact ⟨⟨h.1.w 1, by rw [w2_at, if_pos ⟨rfl, rfl⟩]; rfl⟩, (RFrb.rf I).w 1⟩
      · rw [if_neg e3, if_neg e3]
        exact ⟨h, RFrb.rf I⟩
section TKE
variable {d nn Ln : Nat} {fz : Nat} {K : Post} {I : HI} {J : HJ} {W H : Nat} {C : Cel} {g : Nat}
theorem sp_takeb (hn : 59 ≤ nn) (hS : StC I W H C) (hg : g < 2 * (W + H)) (hln : I 38 g = Int32.ofNat (bN W H C g)) (hpa : ∀ j, j < bN W H C g → I 43 (98 * g + j) = Int32.ofNat (pC W H C g j))
    (hK : ∀ I', RFrb I I' → RStb I' (rdW (fun i => C (pC W H C g i)) (bN W H C g)) → K (.inl none) (hp fz nn (lay Ln) I' J)) : cal (d + 5) 31 [.ref 55, .ref 2, .ref 35, .int (Int32.ofNat g)] (hp fz nn (lay Ln) I J) K := by
  have hb := hS.1.g28
  have hWH := hS.1.n
  have hW := hS.W0
  have hH := hS.H0
  have hbn := bN_le (C := C) hW hH hg
  have lp : ∀ (m i : Nat) (I' : HI), i + m = bN W H C g → RFrb I I' → RStb I' (rdW (fun i => C (pC W H C g i)) i) →
      EX (cal (d + 4)) 31 K 13 [some (.ref 55), some (.ref 2), some (.ref 35), some (.int (Int32.ofNat g)), some (.int (Int32.ofNat i))] [] (0, 0) (hp fz nn (lay Ln) I' J) := by
    intro m
    induction m with
    | zero =>
      intro i I' hi hf hr
      obtain rfl : i = bN W H C g := hi
      refine rb_31_13 hn (if_y ?_ (hK I' hf hr))
      rw [hf 38 (by decide) (by decide), atI_oN (by omega) (by decide), hln]
      exact Int32.le_refl _
    | succ m ih =>
      intro i I' hi hf hr
      have hS' : StC I' W H C := hS.mono (hf 2 (by decide) (by decide)) (hf 3 (by decide) (by decide))
      refine rb_31_13 hn (if_n ?_ ?_)
      · rw [hf 38 (by decide) (by decide), atI_oN (by omega) (by decide), hln]
        exact le_n (by omega) (by omega)
      · rw [path_at (v := pC W H C g i) (by omega) (by omega) (by rw [hf 43 (by decide) (by decide)]; exact hpa i (by omega)), hS'.byt (pC_lt hW hH hg (by omega)), oN_succ]
        have hl := rdW_len (fun i => C (pC W H C g i)) i
        obtain ⟨a, b⟩ := takeC_okb (v := C (pC W H C g i)) hr (by omega)
        exact ih (i + 1) _ (by omega) (hf.tr b) a
  refine call_in (Nat.le_of_ble_eq_true rfl) rfl rfl (rb_31_0 hn (lp (bN W H C g) 0 _ (by omega) (((RFrb.rf I).w 0).w 0) ⟨⟨?_, fun k hk => absurd hk (by show ¬ k < 0; omega)⟩, ?_⟩))
  · rw [w2_at, if_neg (by decide), w2_at, if_pos ⟨rfl, rfl⟩]; rfl
  · rw [w2_at, if_pos ⟨rfl, rfl⟩]; rfl
end TKE
