/-! ===== the first that holds; the lowest bit ===== -/
/-- the first i below n with p, n if there is none -/
def fstI (p : Nat → Bool) : Nat → Nat
  | 0 => 0
  | n + 1 => if fstI p n < n then fstI p n else if p n then n else n + 1
theorem fstI_le (p : Nat → Bool) (n : Nat) : fstI p n ≤ n := by
  induction n with
  | zero => exact Nat.le_refl _
  | succ n ih => unfold fstI; split <;> (try split) <;> omega
theorem fstI_lo {p : Nat → Bool} {n j : Nat} (h : j < fstI p n) : p j = false := by
  induction n with
  | zero => exact absurd h (Nat.not_lt_zero j)
  | succ n ih =>
    have hle := fstI_le p n
    unfold fstI at h
    split at h
    · exact ih h
    · rename_i hn
      have e : fstI p n = n := by omega
      split at h
      · exact ih (by omega)
      · rename_i hp
        by_cases q : j = n
        · subst q; simpa using hp
        · exact ih (by omega)
theorem fstI_at {p : Nat → Bool} {n : Nat} (h : fstI p n < n) : p (fstI p n) = true := by
  induction n with
  | zero => exact absurd h (Nat.not_lt_zero _)
  | succ n ih =>
    unfold fstI at h ⊢
    split at h
    · rename_i h1; rw [if_pos h1]; exact ih h1
    · rename_i h1
      rw [if_neg h1]
      split at h
      · rename_i h2; rw [if_pos h2]; exact h2
      · omega
theorem fstI_of {p : Nat → Bool} {n i : Nat} (hi : i < n) (hp : p i = true) (hlo : ∀ j, j < i → p j = false) : fstI p n = i := by
  have h1 : ¬ i < fstI p n := fun h => by rw [fstI_lo h] at hp; cases hp
  have h2 : ¬ fstI p n < i := fun h => by
    have h3 := fstI_at (p := p) (n := n) (by omega)
    rw [hlo _ h] at h3; cases h3
  omega
theorem fstI_none {p : Nat → Bool} {n : Nat} (hlo : ∀ j, j < n → p j = false) : fstI p n = n := by
  have h1 := fstI_le p n
  by_cases h : fstI p n < n
  · have h3 := fstI_at h
    rw [hlo _ h] at h3; cases h3
  · omega
def lowb (x : Int64) : Nat := fstI (bt x) 64
theorem lowb_lt {x : Int64} (h : x ≠ 0) : lowb x < 64 := by
  obtain ⟨c, h1, h2⟩ := bt_ne.mp h
  have h3 := fstI_le (bt x) 64
  by_cases e : lowb x < 64
  · exact e
  · have h4 : c < fstI (bt x) 64 := by unfold lowb at e; omega
    rw [fstI_lo h4] at h2
    cases h2
theorem lowb_at {x : Int64} (h : x ≠ 0) : bt x (lowb x) = true := fstI_at (lowb_lt h)
theorem nv_bt (x : Int64) (c : Nat) : bt x c = Nat.testBit (nv x) c := rfl
theorem nv_neg {x : Int64} (h : x ≠ 0) : nv (-x) = 2 ^ 64 - nv x := by
  have h0 : nv x ≠ 0 := fun e => h (by
    apply Int64.toBitVec_inj.mp
    apply BitVec.eq_of_toNat_eq
    exact e)
  have hl := nv_lt x
  unfold nv at *
  rw [Int64.toBitVec_neg, BitVec.toNat_neg]
  omega
theorem low_tb {X c : Nat} (h1 : Nat.testBit X c = true) (h2 : ∀ j, j < c → Nat.testBit X j = false) : ∃ m, X = 2 ^ c * (2 * m + 1) := by
  induction c generalizing X with
  | zero =>
    refine ⟨X / 2, ?_⟩
    rw [Nat.testBit_zero] at h1
    have := decide_eq_true_iff.mp h1
    omega
  | succ c ih =>
    have h0 := h2 0 (by omega)
    rw [Nat.testBit_zero] at h0
    have h0 := decide_eq_false_iff_not.mp h0
    rw [Nat.testBit_succ] at h1
    obtain ⟨m, hm⟩ := ih h1 (fun j hj => by have := h2 (j + 1) (by omega); rw [Nat.testBit_succ] at this; exact this)
    refine ⟨m, ?_⟩
    rw [Nat.pow_succ, Nat.mul_assoc, Nat.mul_comm 2 (2 * m + 1), ← Nat.mul_assoc, ← hm]
    omega
theorem low_eq {x : Int64} (h : x ≠ 0) : x &&& -x = bitL (lowb x) := by
  have hc := lowb_lt h
  have hat := lowb_at h
  have hlo : ∀ j, j < lowb x → bt x j = false := fun j hj => fstI_lo hj
  generalize lowb x = c at *
  apply bt_ext
  intro i hi
  rw [bt_and, bt_bit hc, nv_bt, nv_bt, nv_neg h]
  rw [nv_bt] at hat
  have hlo : ∀ j, j < c → Nat.testBit (nv x) j = false := hlo
  obtain ⟨m, hm⟩ := low_tb hat hlo
  have hl := nv_lt x
  have hp : 0 < 2 ^ c := Nat.pow_pos (by decide)
  have e1 : 2 ^ 64 - nv x = 2 ^ 64 - ((nv x - 1) + 1) := by
    have : 0 < nv x := by rw [hm]; exact Nat.mul_pos hp (by omega)
    omega
  rw [e1, Nat.testBit_two_pow_sub_succ (by omega)]
  have e2 : nv x - 1 = 2 ^ c * (2 * m) + (2 ^ c - 1) := by
    rw [hm, Nat.mul_add]
    omega
  have e3 : nv x = 2 ^ c * (2 * m + 1) + 0 := hm
  rw [e2, Nat.testBit_two_pow_mul_add _ (by omega)]
  rw [show Nat.testBit (nv x) i = Nat.testBit (2 ^ c * (2 * m + 1) + 0) i by rw [← e3], Nat.testBit_two_pow_mul_add _ hp]
  by_cases q1 : i < c
  · rw [if_pos q1, if_pos q1]
    have : i ≠ c := by omega
    simp [this]
  · rw [if_neg q1, if_neg q1]
    by_cases q2 : i = c
    · subst q2
      simp [hi]
    · obtain ⟨j, hj⟩ : ∃ j, i - c = j + 1 := ⟨i - c - 1, by omega⟩
      rw [hj, Nat.testBit_succ, Nat.testBit_succ, show (2 * m + 1) / 2 = m by omega, show 2 * m / 2 = m by omega]
      cases Nat.testBit m j <;> simp [q2]
theorem low_cnt : ∀ c, c < 64 → f_J13_bitCount_95d88 (bitL c - 1) = Int32.ofNat c := by decide +kernel
theorem low_and {x : Int64} (m : Int64) {c : Nat} (hc : c < 64) (hx : x = bitL c) : m &&& x = 0 ↔ bt m c = false := by
  subst hx
  constructor
  · intro e
    have := congrArg (fun y => bt y c) e
    simp only [bt_and, bt_bit hc, bt_zero] at this
    simpa using this
  · intro e
    apply bt_ext
    intro i hi
    rw [bt_and, bt_bit hc, bt_zero]
    by_cases q : i = c
    · subst q; rw [e]; rfl
    · simp [q]
