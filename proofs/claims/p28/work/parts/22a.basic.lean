/-! ===== reads and writes by a guarded index; filled and copied rows ===== -/
/-- an index that a guard lets through -/
def gin (i : Int32) (z : Nat) : Prop := 0 ≤ i ∧ i < Int32.ofNat z
def atI (f : Nat → Int32) (z : Nat) (i : Int32) : Int32 := if i < 0 then 0 else if Int32.ofNat z ≤ i then 0 else f i.toNatClampNeg
def atJ (f : Nat → Int64) (z : Nat) (i : Int32) : Int64 := if i < 0 then 0 else if Int32.ofNat z ≤ i then 0 else f i.toNatClampNeg
def pI2 (I : HI) (a z : Nat) (i v : Int32) : HI := fun a' k' => bif Nat.beq a' a then (if i < 0 then I a' k' else if Int32.ofNat z ≤ i then I a' k' else if k' = i.toNatClampNeg then v else I a' k') else I a' k'
def pJ2 (J : HJ) (a z : Nat) (i : Int32) (v : Int64) : HJ := fun a' k' => bif Nat.beq a' a then (if i < 0 then J a' k' else if Int32.ofNat z ≤ i then J a' k' else if k' = i.toNatClampNeg then v else J a' k') else J a' k'
def flI (I : HI) (a z : Nat) (v : Int32) : HI := fun a' k' => bif Nat.beq a' a then (if k' < z then v else I a' k') else I a' k'
def flJ (J : HJ) (a z : Nat) (v : Int64) : HJ := fun a' k' => bif Nat.beq a' a then (if k' < z then v else J a' k') else J a' k'
def cpI (I : HI) (b a z : Nat) : HI := fun a' k' => bif Nat.beq a' a then (if k' < z then I b k' else I a' k') else I a' k'
theorem vin {i : Int32} {z : Nat} (hz : z < 2 ^ 31) (h1 : ¬ i < 0) (h2 : ¬ Int32.ofNat z ≤ i) : vp_in i z := by
  intro h
  rcases h with h | h
  · exact h1 h
  · apply h2
    rw [Int32.le_iff_toInt_le, Int32.toInt_ofNat_of_lt hz]
    have h3 : 0 ≤ i.toInt := by
      have := h1
      rw [Int32.lt_iff_toInt_lt] at this
      simpa using this
    have h4 : i.toNatClampNeg = i.toInt.toNat := rfl
    rw [h4] at h
    omega
theorem w2_pI2 (I : HI) (a z : Nat) (i v : Int32) (h1 : ¬ i < 0) (h2 : ¬ Int32.ofNat z ≤ i) : w2 I a i.toNatClampNeg v = pI2 I a z i v := by
  funext a' k'
  unfold w2 pI2
  cases Nat.beq a' a with
  | false => rfl
  | true =>
    simp only [cond_true, if_neg h1, if_neg h2]
    by_cases h : k' = i.toNatClampNeg
    · rw [if_pos h, h, Nat.beq_refl]; rfl
    · rw [if_neg h, nbeq h]; rfl
theorem x2_pJ2 (J : HJ) (a z : Nat) (i : Int32) (v : Int64) (h1 : ¬ i < 0) (h2 : ¬ Int32.ofNat z ≤ i) : x2 J a i.toNatClampNeg v = pJ2 J a z i v := by
  funext a' k'
  unfold x2 pJ2
  cases Nat.beq a' a with
  | false => rfl
  | true =>
    simp only [cond_true, if_neg h1, if_neg h2]
    by_cases h : k' = i.toNatClampNeg
    · rw [if_pos h, h, Nat.beq_refl]; rfl
    · rw [if_neg h, nbeq h]; rfl
theorem pI2_out (I : HI) (a z : Nat) (i v : Int32) (h : i < 0 ∨ Int32.ofNat z ≤ i) : pI2 I a z i v = I := by
  funext a' k'
  unfold pI2
  cases Nat.beq a' a with
  | false => rfl
  | true =>
    simp only [cond_true]
    by_cases h1 : i < 0
    · rw [if_pos h1]
    · rw [if_neg h1, if_pos (h.resolve_left h1)]
theorem pJ2_out (J : HJ) (a z : Nat) (i : Int32) (v : Int64) (h : i < 0 ∨ Int32.ofNat z ≤ i) : pJ2 J a z i v = J := by
  funext a' k'
  unfold pJ2
  cases Nat.beq a' a with
  | false => rfl
  | true =>
    simp only [cond_true]
    by_cases h1 : i < 0
    · rw [if_pos h1]
    · rw [if_neg h1, if_pos (h.resolve_left h1)]
