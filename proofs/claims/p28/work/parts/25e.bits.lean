/-! ===== bits of a mask ===== -/
def bt (x : Int64) (c : Nat) : Bool := x.toBitVec.getLsbD c
theorem bt_or (x y : Int64) (c : Nat) : bt (x ||| y) c = (bt x c || bt y c) := by
  unfold bt
  rw [Int64.toBitVec_or, BitVec.getLsbD_or]
theorem bt_and (x y : Int64) (c : Nat) : bt (x &&& y) c = (bt x c && bt y c) := by
  unfold bt
  rw [Int64.toBitVec_and, BitVec.getLsbD_and]
theorem bt_zero (c : Nat) : bt 0 c = false := by
  unfold bt
  rw [Int64.toBitVec_zero]
  exact BitVec.getLsbD_zero
theorem bt_hi (x : Int64) {c : Nat} (h : 64 ≤ c) : bt x c = false := BitVec.getLsbD_of_ge _ _ h
theorem bt_ext {x y : Int64} (h : ∀ c, c < 64 → bt x c = bt y c) : x = y := by
  apply Int64.toBitVec_inj.mp
  apply BitVec.eq_of_getLsbD_eq
  intro i hi
  exact h i hi
theorem bitL_eq {n : Nat} (h : n < 64) : (bitL n).toBitVec = BitVec.twoPow 64 n := by
  have : ∀ n, n < 64 → (bitL n).toBitVec = BitVec.twoPow 64 n := by decide
  exact this n h
theorem bt_bit {n : Nat} (h : n < 64) (c : Nat) : bt (bitL n) c = decide (c = n) := by
  unfold bt
  rw [bitL_eq h, BitVec.getLsbD_twoPow]
  by_cases e : c = n
  · subst e; simp [h]
  · have : ¬ n = c := fun q => e q.symm
    simp [e, this]
theorem bt_ne {x : Int64} : x ≠ 0 ↔ ∃ c, c < 64 ∧ bt x c = true := by
  constructor
  · intro h
    apply Classical.byContradiction
    intro hn
    apply h
    apply bt_ext
    intro c hc
    rw [bt_zero]
    cases e : bt x c with
    | false => rfl
    | true => exact absurd ⟨c, hc, e⟩ hn
  · rintro ⟨c, -, h⟩ rfl
    rw [bt_zero] at h
    cases h
theorem bt_ltc {x : Int64} {c : Nat} (h : bt x c = true) : c < 64 := by
  apply Classical.byContradiction
  intro hn
  rw [bt_hi x (by omega)] at h
  cases h
theorem cmp0 (x : Int64) : lg_cmp x 0 = 0 ↔ x = 0 := by
  unfold lg_cmp
  constructor
  · intro h
    split at h
    · cases h
    · split at h
      · assumption
      · cases h
  · rintro rfl
    decide
theorem cntB_pos {p : Nat → Bool} {n : Nat} : 0 < cntB p n ↔ ∃ i, i < n ∧ p i = true := by
  induction n with
  | zero => exact ⟨fun h => absurd h (Nat.lt_irrefl 0), fun ⟨i, h, _⟩ => absurd h (Nat.not_lt_zero i)⟩
  | succ n ih =>
    unfold cntB
    constructor
    · intro h
      by_cases e : p n = true
      · exact ⟨n, by omega, e⟩
      · rw [if_neg e] at h
        obtain ⟨i, h1, h2⟩ := ih.mp h
        exact ⟨i, by omega, h2⟩
    · rintro ⟨i, h1, h2⟩
      by_cases e : i = n
      · subst e
        rw [if_pos h2]
        omega
      · have := ih.mpr ⟨i, by omega, h2⟩
        omega
theorem bt_orB {f : Nat → Nat} {n : Nat} (hf : ∀ i, i < n → f i < 64) (c : Nat) : bt (orB f n) c = true ↔ ∃ i, i < n ∧ f i = c := by
  induction n with
  | zero =>
    constructor
    · intro h; unfold orB at h; rw [bt_zero] at h; cases h
    · rintro ⟨i, h, -⟩; omega
  | succ n ih =>
    unfold orB
    rw [bt_or, bt_bit (hf n (by omega)), Bool.or_eq_true, ih (fun i hi => hf i (by omega)), decide_eq_true_iff]
    constructor
    · rintro (⟨i, h1, h2⟩ | h)
      · exact ⟨i, by omega, h2⟩
      · exact ⟨n, by omega, h.symm⟩
    · rintro ⟨i, h1, h2⟩
      by_cases e : i = n
      · subst e; exact Or.inr h2.symm
      · exact Or.inl ⟨i, by omega, h2⟩
theorem twB_ne {f : Nat → Nat} {n : Nat} (hf : ∀ i, i < n → f i < 64) : twB f n ≠ 0 ↔ crB f n = true := by
  rw [bt_ne]
  induction n with
  | zero =>
    constructor
    · rintro ⟨c, -, h⟩; unfold twB at h; rw [bt_zero] at h; cases h
    · intro h; cases h
  | succ n ih =>
    have ih := ih (fun i hi => hf i (by omega))
    unfold crB
    rw [Bool.or_eq_true, ← ih, decide_eq_true_iff, cntB_pos]
    constructor
    · rintro ⟨c, hc, h⟩
      unfold twB at h
      rw [bt_or, Bool.or_eq_true, bt_and, Bool.and_eq_true, bt_bit (hf n (by omega)), decide_eq_true_iff] at h
      rcases h with h | ⟨h, rfl⟩
      · exact Or.inl ⟨c, hc, h⟩
      · right
        obtain ⟨i, h1, h2⟩ := (bt_orB (fun i hi => hf i (by omega)) _).mp h
        exact ⟨i, h1, decide_eq_true h2⟩
    · rintro (⟨c, hc, h⟩ | ⟨i, h1, h2⟩)
      · refine ⟨c, hc, ?_⟩
        unfold twB
        rw [bt_or, h, Bool.true_or]
      · refine ⟨f n, hf n (by omega), ?_⟩
        unfold twB
        rw [bt_or, bt_and, bt_bit (hf n (by omega))]
        have : bt (orB f n) (f n) = true := (bt_orB (fun i hi => hf i (by omega)) _).mpr ⟨i, h1, of_decide_eq_true h2⟩
        rw [this]
        simp
