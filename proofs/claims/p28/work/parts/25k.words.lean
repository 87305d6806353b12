/-! ===== the list of words, by the class ===== -/
def anyB (p : Nat → Bool) : Nat → Bool
  | 0 => false
  | n + 1 => anyB p n || p n
def allB (p : Nat → Bool) : Nat → Bool
  | 0 => true
  | n + 1 => allB p n && p n
theorem anyB_iff {p : Nat → Bool} {n : Nat} : anyB p n = true ↔ ∃ i, i < n ∧ p i = true := by
  induction n with
  | zero => exact ⟨fun h => (by cases h), fun ⟨i, h, _⟩ => absurd h (Nat.not_lt_zero i)⟩
  | succ n ih =>
    unfold anyB
    rw [Bool.or_eq_true, ih]
    constructor
    · rintro (⟨i, h1, h2⟩ | h)
      · exact ⟨i, by omega, h2⟩
      · exact ⟨n, by omega, h⟩
    · rintro ⟨i, h1, h2⟩
      by_cases e : i = n
      · subst e; exact Or.inr h2
      · exact Or.inl ⟨i, by omega, h2⟩
theorem allB_iff {p : Nat → Bool} {n : Nat} : allB p n = true ↔ ∀ i, i < n → p i = true := by
  induction n with
  | zero => exact ⟨fun _ i h => absurd h (Nat.not_lt_zero i), fun _ => rfl⟩
  | succ n ih =>
    unfold allB
    rw [Bool.and_eq_true, ih]
    constructor
    · rintro ⟨h1, h2⟩ i hi
      by_cases e : i = n
      · subst e; exact h2
      · exact h1 i (by omega)
    · intro h
      exact ⟨fun i hi => h i (by omega), h n (by omega)⟩
theorem anyB_congr {p q : Nat → Bool} {n : Nat} (h : ∀ i, i < n → p i = q i) : anyB p n = anyB q n := by
  induction n with
  | zero => rfl
  | succ n ih =>
    unfold anyB
    rw [ih (fun i hi => h i (by omega)), h n (by omega)]
theorem allB_congr {p q : Nat → Bool} {n : Nat} (h : ∀ i, i < n → p i = q i) : allB p n = allB q n := by
  induction n with
  | zero => rfl
  | succ n ih =>
    unfold allB
    rw [ih (fun i hi => h i (by omega)), h n (by omega)]
theorem allB_no {p : Nat → Bool} {i n : Nat} (h : i < n) (hp : p i = false) : allB p n = false := by
  cases e : allB p n with
  | false => rfl
  | true => rw [allB_iff.mp e i h] at hp; cases hp
/-- words: how many, their lengths, their letters -/
abbrev Wds : Type := Nat × (Nat → Nat) × (Nat → Nat → Int32)
def wEq (w : Wds) (f : Nat → Int32) (s len i : Nat) : Bool := decide (w.2.1 i = len) && allB (fun k => decide (w.2.2 i k = f (s + k))) (w.2.1 i)
def inW (w : Wds) (f : Nat → Int32) (s len : Nat) : Bool := anyB (wEq w f s len) w.1
theorem inW_congr {w : Wds} {f f' : Nat → Int32} {s len : Nat} (h : ∀ k, k < len → f (s + k) = f' (s + k)) : inW w f s len = inW w f' s len := by
  unfold inW
  apply anyB_congr
  intro i _
  unfold wEq
  by_cases e : w.2.1 i = len
  · rw [decide_eq_true e]
    congr 1
    apply allB_congr
    intro k hk
    rw [h k (by omega)]
  · rw [decide_eq_false e]
    rfl
def WOK (I : HI) (w : Wds) : Prop :=
  (I 5 0 = Int32.ofNat w.1) ∧
  (w.1 ≤ 8) ∧
  (∀ i, i < w.1 → I 6 i = Int32.ofNat (w.2.1 i)) ∧
  (∀ i, i < w.1 → 1 ≤ w.2.1 i ∧ w.2.1 i ≤ 8) ∧
  (∀ i, i < w.1 → ∀ k, k < w.2.1 i → I 7 (8 * i + k) = w.2.2 i k)
theorem WOK.n {I : HI} {w : Wds} (h : WOK I w) : I 5 0 = Int32.ofNat w.1 := h.1
theorem WOK.n8 {I : HI} {w : Wds} (h : WOK I w) : w.1 ≤ 8 := h.2.1
theorem WOK.ln {I : HI} {w : Wds} (h : WOK I w) : ∀ i, i < w.1 → I 6 i = Int32.ofNat (w.2.1 i) := h.2.2.1
theorem WOK.l8 {I : HI} {w : Wds} (h : WOK I w) : ∀ i, i < w.1 → 1 ≤ w.2.1 i ∧ w.2.1 i ≤ 8 := h.2.2.2.1
theorem WOK.lt {I : HI} {w : Wds} (h : WOK I w) : ∀ i, i < w.1 → ∀ k, k < w.2.1 i → I 7 (8 * i + k) = w.2.2 i k := h.2.2.2.2
theorem WOK.mk {I : HI} {w : Wds} (c_n : I 5 0 = Int32.ofNat w.1) (c_n8 : w.1 ≤ 8) (c_ln : ∀ i, i < w.1 → I 6 i = Int32.ofNat (w.2.1 i)) (c_l8 : ∀ i, i < w.1 → 1 ≤ w.2.1 i ∧ w.2.1 i ≤ 8) (c_lt : ∀ i, i < w.1 → ∀ k, k < w.2.1 i → I 7 (8 * i + k) = w.2.2 i k) : WOK I w := ⟨c_n, c_n8, c_ln, c_l8, c_lt⟩
theorem WOK.mono {I I' : HI} {w : Wds} (h : WOK I w) (h5 : I' 5 = I 5) (h6 : I' 6 = I 6) (h7 : I' 7 = I 7) : WOK I' w :=
  WOK.mk (by rw [h5]; exact h.n) h.n8 (fun i hi => by rw [h6]; exact h.ln i hi) h.l8 (fun i hi k hk => by rw [h7]; exact h.lt i hi k hk)
theorem wix (i k : Nat) : Int32.ofNat i * 8 + Int32.ofNat k = Int32.ofNat (8 * i + k) := by
  have : Int32.ofNat i * 8 = Int32.ofNat (i * 8) := oN_mul i 8
  rw [this, oN_add, Nat.mul_comm]
section FND
variable {d nn Ln : Nat} {fz : Nat} {K : Post} {I : HI} {J : HJ} {w : Wds}
theorem sp_stands (hn : 59 ≤ nn) (hw : WOK I w) {i s : Nat} (hi : i < w.1) (hs : s + w.2.1 i ≤ 60)
    (hK : K (.inl (some (.int (b2 (allB (fun k => decide (w.2.2 i k = I 58 (s + k))) (w.2.1 i)))))) (hp fz nn (lay Ln) I J)) : cal (d + 3) 78 [.ref 5, .int (Int32.ofNat i), .ref 58, .int (Int32.ofNat s)] (hp fz nn (lay Ln) I J) K := by
  have h8 := hw.l8 i hi
  have hn8 := hw.n8
  have lp : ∀ m k : Nat, k + m = w.2.1 i → (∀ k', k' < k → w.2.2 i k' = I 58 (s + k')) →
      EX (cal (d + 2)) 78 K 13 [some (.ref 5), some (.int (Int32.ofNat i)), some (.ref 58), some (.int (Int32.ofNat s)), some (.int (Int32.ofNat (w.2.1 i))), some (.int (Int32.ofNat k))] [] (0, 0) (hp fz nn (lay Ln) I J) := by
    intro m
    induction m with
    | zero =>
      intro k hk h
      obtain rfl : k = w.2.1 i := hk
      refine ra_78_13 hn (if_y (Int32.le_refl _) ?_)
      rw [allB_iff.mpr (fun k hk => decide_eq_true (h k hk))] at hK
      exact hK
    | succ m ih =>
      intro k hk h
      refine ra_78_13 hn (if_n (le_n (by omega) (by omega)) ?_)
      rw [wix, oN_add, atI_oN (by omega) (by decide), atI_oN (by omega) (by decide), hw.lt i hi k (by omega)]
      refine if_c (fun e => ?_) (fun e => ?_)
      · rw [oN_succ]
        refine ih (k + 1) (by omega) (fun k' hk' => ?_)
        by_cases q : k' = k
        · subst q; exact e
        · exact h k' (by omega)
      · rw [allB_no (p := fun k => decide (w.2.2 i k = I 58 (s + k))) (i := k) (by omega) (decide_eq_false e)] at hK
        exact hK
  refine call_in (Nat.le_of_ble_eq_true rfl) rfl rfl (ra_78_0 hn ?_)
  rw [atI_oN (by omega) (by decide), hw.ln i hi]
  exact lp (w.2.1 i) 0 (by omega) (fun k' h => absurd h (by omega))
theorem sp_find (hn : 59 ≤ nn) (hw : WOK I w) {s len : Nat} (hs : s + len ≤ 60)
    (hK : ∀ v, (v = -1 ↔ inW w (I 58) s len = false) → K (.inl (some (.int v))) (hp fz nn (lay Ln) I J)) : cal (d + 4) 77 [.ref 5, .ref 58, .int (Int32.ofNat s), .int (Int32.ofNat len)] (hp fz nn (lay Ln) I J) K := by
  have hn8 := hw.n8
  have lp : ∀ m i : Nat, i + m = w.1 → (∀ j, j < i → wEq w (I 58) s len j = false) →
      EX (cal (d + 3)) 77 K 3 [some (.ref 5), some (.ref 58), some (.int (Int32.ofNat s)), some (.int (Int32.ofNat len)), some (.int (Int32.ofNat i))] [] (0, 0) (hp fz nn (lay Ln) I J) := by
    intro m
    induction m with
    | zero =>
      intro i hi h
      obtain rfl : i = w.1 := hi
      refine ra_77_3 (d := d + 2) hn (if_y (by rw [hw.n]; exact Int32.le_refl _) (hK (-1) ⟨fun _ => ?_, fun _ => rfl⟩))
      unfold inW
      cases e : anyB (wEq w (I 58) s len) w.1 with
      | false => rfl
      | true =>
        obtain ⟨j, h1, h2⟩ := anyB_iff.mp e
        rw [h j h1] at h2
        cases h2
    | succ m ih =>
      intro i hi h
      have hi' : i < w.1 := by omega
      have h8 := hw.l8 i hi'
      have next : wEq w (I 58) s len i = false → EX (cal (d + 3)) 77 K 3 [some (.ref 5), some (.ref 58), some (.int (Int32.ofNat s)), some (.int (Int32.ofNat len)), some (.int (Int32.ofNat i + 1))] [] (0, 0) (hp fz nn (lay Ln) I J) := by
        intro e
        rw [oN_succ]
        refine ih (i + 1) (by omega) (fun j hj => ?_)
        by_cases q : j = i
        · subst q; exact e
        · exact h j (by omega)
      refine ra_77_3 (d := d + 2) hn (if_n (by rw [hw.n]; exact le_n (by omega) (by omega)) ?_)
      rw [atI_oN (by omega) (by decide), hw.ln i hi']
      refine if_c (fun e => ?_) (fun e => ?_)
      · have e := (oN_eq (by omega) (by omega)).mp e
        refine sp_stands hn hw hi' (by omega) (kc_v rfl rfl (ra_77_33 (d := d + 2) hn ?_))
        have hq : wEq w (I 58) s len i = allB (fun k => decide (w.2.2 i k = I 58 (s + k))) (w.2.1 i) := by
          unfold wEq
          rw [decide_eq_true e, Bool.true_and]
        rw [← hq]
        refine if_c (fun e2 => next ((b2_0 _).mp e2)) (fun e2 => hK _ ?_)
        have e3 : wEq w (I 58) s len i = true := by
          cases q : wEq w (I 58) s len i with
          | true => rfl
          | false => rw [q] at e2; exact absurd rfl e2
        constructor
        · intro q; exact absurd q (g_ne (by omega))
        · intro q
          unfold inW at q
          rw [anyB_iff.mpr ⟨i, hi', e3⟩] at q
          cases q
      · refine next ?_
        unfold wEq
        rw [decide_eq_false (fun q => e (by rw [q])), Bool.false_and]
  exact call_in (Nat.le_of_ble_eq_true rfl) rfl rfl (ra_77_0 (d := d + 2) hn (lp w.1 0 (by omega) (fun j h => absurd h (by omega))))
end FND
section FND
variable {d nn Ln : Nat} {fz : Nat} {K : Post} {I : HI} {J : HJ} {w : Wds}
theorem sp_standsb (hn : 59 ≤ nn) (hw : WOK I w) {i s : Nat} (hi : i < w.1) (hs : s + w.2.1 i ≤ 294)
    (hK : K (.inl (some (.int (b2 (allB (fun k => decide (w.2.2 i k = I 54 (s + k))) (w.2.1 i)))))) (hp fz nn (lay Ln) I J)) : cal (d + 3) 78 [.ref 5, .int (Int32.ofNat i), .ref 54, .int (Int32.ofNat s)] (hp fz nn (lay Ln) I J) K := by
  have h8 := hw.l8 i hi
  have hn8 := hw.n8
  have lp : ∀ m k : Nat, k + m = w.2.1 i → (∀ k', k' < k → w.2.2 i k' = I 54 (s + k')) →
      EX (cal (d + 2)) 78 K 13 [some (.ref 5), some (.int (Int32.ofNat i)), some (.ref 54), some (.int (Int32.ofNat s)), some (.int (Int32.ofNat (w.2.1 i))), some (.int (Int32.ofNat k))] [] (0, 0) (hp fz nn (lay Ln) I J) := by
    intro m
    induction m with
    | zero =>
      intro k hk h
      obtain rfl : k = w.2.1 i := hk
      refine rb_78_13 hn (if_y (Int32.le_refl _) ?_)
      rw [allB_iff.mpr (fun k hk => decide_eq_true (h k hk))] at hK
      exact hK
    | succ m ih =>
      intro k hk h
      refine rb_78_13 hn (if_n (le_n (by omega) (by omega)) ?_)
      rw [wix, oN_add, atI_oN (by omega) (by decide), atI_oN (by omega) (by decide), hw.lt i hi k (by omega)]
      refine if_c (fun e => ?_) (fun e => ?_)
      · rw [oN_succ]
        refine ih (k + 1) (by omega) (fun k' hk' => ?_)
        by_cases q : k' = k
        · subst q; exact e
        · exact h k' (by omega)
      · rw [allB_no (p := fun k => decide (w.2.2 i k = I 54 (s + k))) (i := k) (by omega) (decide_eq_false e)] at hK
        exact hK
  refine call_in (Nat.le_of_ble_eq_true rfl) rfl rfl (rb_78_0 hn ?_)
  rw [atI_oN (by omega) (by decide), hw.ln i hi]
  exact lp (w.2.1 i) 0 (by omega) (fun k' h => absurd h (by omega))
theorem sp_findb (hn : 59 ≤ nn) (hw : WOK I w) {s len : Nat} (hs : s + len ≤ 294)
    (hK : ∀ v, (v = -1 ↔ inW w (I 54) s len = false) → K (.inl (some (.int v))) (hp fz nn (lay Ln) I J)) : cal (d + 4) 77 [.ref 5, .ref 54, .int (Int32.ofNat s), .int (Int32.ofNat len)] (hp fz nn (lay Ln) I J) K := by
  have hn8 := hw.n8
  have lp : ∀ m i : Nat, i + m = w.1 → (∀ j, j < i → wEq w (I 54) s len j = false) →
      EX (cal (d + 3)) 77 K 3 [some (.ref 5), some (.ref 54), some (.int (Int32.ofNat s)), some (.int (Int32.ofNat len)), some (.int (Int32.ofNat i))] [] (0, 0) (hp fz nn (lay Ln) I J) := by
    intro m
    induction m with
    | zero =>
      intro i hi h
      obtain rfl : i = w.1 := hi
      refine rb_77_3 (d := d + 2) hn (if_y (by rw [hw.n]; exact Int32.le_refl _) (hK (-1) ⟨fun _ => ?_, fun _ => rfl⟩))
      unfold inW
      cases e : anyB (wEq w (I 54) s len) w.1 with
      | false => rfl
      | true =>
        obtain ⟨j, h1, h2⟩ := anyB_iff.mp e
        rw [h j h1] at h2
        cases h2
    | succ m ih =>
      intro i hi h
      have hi' : i < w.1 := by omega
      have h8 := hw.l8 i hi'
      have next : wEq w (I 54) s len i = false → EX (cal (d + 3)) 77 K 3 [some (.ref 5), some (.ref 54), some (.int (Int32.ofNat s)), some (.int (Int32.ofNat len)), some (.int (Int32.ofNat i + 1))] [] (0, 0) (hp fz nn (lay Ln) I J) := by
        intro e
        rw [oN_succ]
        refine ih (i + 1) (by omega) (fun j hj => ?_)
        by_cases q : j = i
        · subst q; exact e
        · exact h j (by omega)
      refine rb_77_3 (d := d + 2) hn (if_n (by rw [hw.n]; exact le_n (by omega) (by omega)) ?_)
      rw [atI_oN (by omega) (by decide), hw.ln i hi']
      refine if_c (fun e => ?_) (fun e => ?_)
      · have e := (oN_eq (by omega) (by omega)).mp e
        refine sp_standsb hn hw hi' (by omega) (kc_v rfl rfl (rb_77_33 (d := d + 2) hn ?_))
        have hq : wEq w (I 54) s len i = allB (fun k => decide (w.2.2 i k = I 54 (s + k))) (w.2.1 i) := by
          unfold wEq
          rw [decide_eq_true e, Bool.true_and]
        rw [← hq]
        refine if_c (fun e2 => next ((b2_0 _).mp e2)) (fun e2 => hK _ ?_)
        have e3 : wEq w (I 54) s len i = true := by
          cases q : wEq w (I 54) s len i with
          | true => rfl
          | false => rw [q] at e2; exact absurd rfl e2
        constructor
        · intro q; exact absurd q (g_ne (by omega))
        · intro q
          unfold inW at q
          rw [anyB_iff.mpr ⟨i, hi', e3⟩] at q
          cases q
      · refine next ?_
        unfold wEq
        rw [decide_eq_false (fun q => e (by rw [q])), Bool.false_and]
  exact call_in (Nat.le_of_ble_eq_true rfl) rfl rfl (rb_77_0 (d := d + 2) hn (lp w.1 0 (by omega) (fun j h => absurd h (by omega))))
end FND
