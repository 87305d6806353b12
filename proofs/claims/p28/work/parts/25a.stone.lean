/-! ===== the stone: bytes, counts, masks, turns ===== -/
def b2 (b : Bool) : Int32 := if b then 1 else 0
def isLB (v : Int32) : Bool := decide (97 ≤ v) && decide (v ≤ 122)
def isSB (v : Int32) : Bool := decide (65 ≤ v) && decide (v ≤ 90)
def isRB (v : Int32) : Bool := isLB v || isSB v
def isCB (v : Int32) : Bool := decide (v = 47) || decide (v = 92)
def isOB (v : Int32) : Bool := isRB v || isCB v || decide (v = 46) || decide (v = 35) || decide (v = 58)
theorem nle {a b : Int32} : ¬ a < b ↔ b ≤ a := Int32.not_lt
theorem f_within (p a b : Int32) : f_X8_isWithin p a b = b2 (decide (a ≤ p) && decide (p ≤ b)) := by
  unfold f_X8_isWithin b2
  by_cases h1 : p < a
  · have : ¬ a ≤ p := by rw [← nle]; exact fun h => h h1
    simp [h1, this]
  · have h1' := nle.mp h1
    by_cases h2 : b < p
    · have : ¬ p ≤ b := by rw [← nle]; exact fun h => h h2
      simp [h1, h2, this]
    · simp [h1, h2, h1', nle.mp h2]
theorem b2_0 (b : Bool) : b2 b = 0 ↔ b = false := by cases b <;> decide
theorem b2_1 (b : Bool) : b2 b = 1 ↔ b = true := by cases b <;> decide
theorem f_letter (p : Int32) : f_X8_isLetter p = b2 (isLB p) := f_within p 97 122
theorem f_shared (p : Int32) : f_X8_isSharedRune p = b2 (isSB p) := f_within p 65 90
theorem f_rune (p : Int32) : f_X8_isRune p = b2 (isRB p) := by
  unfold f_X8_isRune isRB
  rw [f_letter, f_shared]
  cases isLB p <;> cases isSB p <;> decide
theorem f_corner (p : Int32) : f_X8_isCorner p = b2 (isCB p) := by
  unfold f_X8_isCorner isCB b2
  by_cases h : p = 47
  · simp [h]
  · by_cases h2 : p = 92
    · simp [h2]
    · simp [h, h2]
theorem f_cellByte (p : Int32) : f_X8_isCellByte p = b2 (isOB p) := by
  unfold f_X8_isCellByte isOB
  rw [f_rune, f_corner]
  cases isRB p <;> cases isCB p <;> simp [b2]
  by_cases h : p = 46
  · simp [h]
  · by_cases h2 : p = 35
    · simp [h2]
    · by_cases h3 : p = 58
      · simp [h3]
      · simp [h, h2, h3]
/-- the sides of the class's stone -/
def Stn (I : HI) (W H : Nat) : Prop := I 2 0 = Int32.ofNat W ∧ I 2 1 = Int32.ofNat H ∧ (2 ≤ W ∧ W ≤ 7) ∧ 2 ≤ H ∧ H ≤ 7
theorem n49 {W H : Nat} (hW : W ≤ 7) (hH : H ≤ 7) : W * H ≤ 49 := Nat.mul_le_mul hW hH
theorem Stn.n {I : HI} {W H : Nat} (h : Stn I W H) : W * H ≤ 49 := n49 h.2.2.1.2 h.2.2.2.2
theorem Stn.wh {I : HI} {W H : Nat} (h : Stn I W H) : I 2 0 * I 2 1 = Int32.ofNat (W * H) := by rw [h.1, h.2.1, oN_mul]
theorem Stn.gt {I : HI} {W H : Nat} (h : Stn I W H) : 2 * (I 2 0 + I 2 1) = Int32.ofNat (2 * (W + H)) := by
  rw [h.1, h.2.1, oN_add]
  exact oN_mul 2 (W + H)
theorem Stn.g28 {I : HI} {W H : Nat} (h : Stn I W H) : 2 * (W + H) ≤ 28 := by
  have := h.2.2.1.2
  have := h.2.2.2.2
  omega
def cntB (p : Nat → Bool) : Nat → Nat
  | 0 => 0
  | n + 1 => cntB p n + (if p n then 1 else 0)
theorem cntB_le (p : Nat → Bool) (n : Nat) : cntB p n ≤ n := by
  induction n with
  | zero => exact Nat.le_refl _
  | succ n ih => unfold cntB; split <;> omega
def bitL (n : Nat) : Int64 := (1 : Int64) <<< ((Int32.ofNat n).toInt64 &&& 63)
def rmask (C : Nat → Int32) : Nat → Int64
  | 0 => 0
  | n + 1 => if isRB (C n) then rmask C n ||| bitL n else rmask C n
section ST
variable {d nn Ln : Nat} {fz : Nat} {K : Post} {I : HI} {J : HJ} {W H : Nat}
theorem at_cell {q : Nat} (hS : Stn I W H) (hq : q < W * H) (f : Nat → Int32) : atI f 49 (Int32.ofNat q) = f q := atI_oN (Nat.lt_of_lt_of_le hq hS.n) (by decide)
theorem st_out {q : Nat} (hS : Stn I W H) (hq : W * H ≤ q) (hq2 : q ≤ 49) : I 2 0 * I 2 1 ≤ Int32.ofNat q := by
  rw [hS.wh, oN_le (by have := hS.n; omega) (by omega)]; exact hq
theorem st_go {q : Nat} (hS : Stn I W H) (hq : q < W * H) : ¬ I 2 0 * I 2 1 ≤ Int32.ofNat q := by
  have := hS.n
  rw [hS.wh, oN_le (by omega) (by omega)]; omega
theorem sp_countCorners (hn : 59 ≤ nn) (hS : Stn I W H) (hK : K (.inl (some (.int (Int32.ofNat (cntB (fun c => isCB (I 3 c)) (W * H)))))) (hp fz nn (lay Ln) I J)) : cal (d + 3) 60 [.ref 2] (hp fz nn (lay Ln) I J) K := by
  have lp : ∀ m q : Nat, q + m = W * H → EX (cal (d + 2)) 60 K 4 [some (.ref 2), some (.int (Int32.ofNat (cntB (fun c => isCB (I 3 c)) q))), some (.int (Int32.ofNat q))] [] (0, 0) (hp fz nn (lay Ln) I J) := by
    intro m
    induction m with
    | zero =>
      intro q hq
      obtain rfl : q = W * H := hq
      exact r_60_4 hn (if_y (st_out hS (Nat.le_refl _) hS.n) hK)
    | succ m ih =>
      intro q hq
      have ih := ih (q + 1) (by omega)
      refine r_60_4 hn (if_n (st_go hS (by omega)) ?_)
      rw [at_cell hS (by omega), f_corner, oN_succ]
      unfold cntB at ih
      refine if_c (fun c => ?_) (fun c => ?_)
      · rw [(b2_0 _).mp c] at ih
        rw [Int32.add_zero]
        exact ih
      · have h1 : isCB (I 3 q) = true := by
          cases e : isCB (I 3 q) with
          | true => rfl
          | false => exact absurd ((b2_0 _).mpr e) c
        rw [h1] at ih
        rw [oN_succ]
        exact ih
  exact call_in (Nat.le_of_ble_eq_true rfl) rfl rfl (r_60_0 hn (lp (W * H) 0 (by omega)))
theorem sp_countShared (hn : 59 ≤ nn) (hS : Stn I W H) (hK : K (.inl (some (.int (Int32.ofNat (cntB (fun c => isSB (I 3 c)) (W * H)))))) (hp fz nn (lay Ln) I J)) : cal (d + 4) 59 [.ref 2] (hp fz nn (lay Ln) I J) K := by
  have lp : ∀ m q : Nat, q + m = W * H → EX (cal (d + 3)) 59 K 4 [some (.ref 2), some (.int (Int32.ofNat (cntB (fun c => isSB (I 3 c)) q))), some (.int (Int32.ofNat q))] [] (0, 0) (hp fz nn (lay Ln) I J) := by
    intro m
    induction m with
    | zero =>
      intro q hq
      obtain rfl : q = W * H := hq
      exact r_59_4 (d := d + 1) hn (if_y (st_out hS (Nat.le_refl _) hS.n) hK)
    | succ m ih =>
      intro q hq
      have ih := ih (q + 1) (by omega)
      refine r_59_4 (d := d + 1) hn (if_n (st_go hS (by omega)) ?_)
      rw [at_cell hS (by omega), f_shared, oN_succ]
      unfold cntB at ih
      refine if_c (fun c => ?_) (fun c => ?_)
      · rw [(b2_0 _).mp c] at ih
        rw [Int32.add_zero]
        exact ih
      · have h1 : isSB (I 3 q) = true := by
          cases e : isSB (I 3 q) with
          | true => rfl
          | false => exact absurd ((b2_0 _).mpr e) c
        rw [h1] at ih
        rw [oN_succ]
        exact ih
  exact call_in (Nat.le_of_ble_eq_true rfl) rfl rfl (r_59_0 hn (lp (W * H) 0 (by omega)))
theorem sp_countBroken (hn : 59 ≤ nn) (hS : Stn I W H) (hK : K (.inl (some (.int (Int32.ofNat (cntB (fun c => decide (I 3 c = 35)) (W * H)))))) (hp fz nn (lay Ln) I J)) : cal (d + 3) 61 [.ref 2] (hp fz nn (lay Ln) I J) K := by
  have lp : ∀ m q : Nat, q + m = W * H → EX (cal (d + 2)) 61 K 4 [some (.ref 2), some (.int (Int32.ofNat (cntB (fun c => decide (I 3 c = 35)) q))), some (.int (Int32.ofNat q))] [] (0, 0) (hp fz nn (lay Ln) I J) := by
    intro m
    induction m with
    | zero =>
      intro q hq
      obtain rfl : q = W * H := hq
      exact r_61_4 hn (if_y (st_out hS (Nat.le_refl _) hS.n) hK)
    | succ m ih =>
      intro q hq
      have ih := ih (q + 1) (by omega)
      refine r_61_4 hn (if_n (st_go hS (by omega)) ?_)
      rw [at_cell hS (by omega)]
      unfold cntB at ih
      refine if_c (fun c => ?_) (fun c => ?_)
      · simp only [c, decide_true, if_true] at ih
        rw [oN_succ, oN_succ]
        exact ih
      · simp only [c, decide_false, Bool.false_eq_true, if_false] at ih
        rw [Nat.add_zero] at ih
        rw [Int32.add_zero, oN_succ]
        exact ih
  exact call_in (Nat.le_of_ble_eq_true rfl) rfl rfl (r_61_0 hn (lp (W * H) 0 (by omega)))
theorem sp_runeMask (hn : 59 ≤ nn) (hS : Stn I W H) (hK : K (.inl (some (.long (rmask (I 3) (W * H))))) (hp fz nn (lay Ln) I J)) : cal (d + 4) 57 [.ref 2] (hp fz nn (lay Ln) I J) K := by
  have lp : ∀ m q : Nat, q + m = W * H → EX (cal (d + 3)) 57 K 4 [some (.ref 2), some (.long (rmask (I 3) q)), none, some (.int (Int32.ofNat q))] [] (0, 0) (hp fz nn (lay Ln) I J) := by
    intro m
    induction m with
    | zero =>
      intro q hq
      obtain rfl : q = W * H := hq
      exact r_57_4 hn (if_y (st_out hS (Nat.le_refl _) hS.n) hK)
    | succ m ih =>
      intro q hq
      have ih := ih (q + 1) (by omega)
      refine r_57_4 hn (if_n (st_go hS (by omega)) ?_)
      rw [at_cell hS (by omega), f_rune, oN_succ]
      unfold rmask at ih
      refine if_c (fun c => ?_) (fun c => ?_)
      · rw [(b2_0 _).mp c] at ih
        exact ih
      · have h1 : isRB (I 3 q) = true := by
          cases e : isRB (I 3 q) with
          | true => rfl
          | false => exact absurd ((b2_0 _).mpr e) c
        rw [h1] at ih
        exact ih
  exact call_in (Nat.le_of_ble_eq_true rfl) rfl rfl (r_57_0 hn (lp (W * H) 0 (by omega)))
end ST
