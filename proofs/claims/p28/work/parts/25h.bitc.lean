/-! ===== the number of a mask's bits ===== -/
def bsh (x : Int64) (n : Int32) : Int64 := (x.toUInt64 >>> (n.toInt64.toUInt64 &&& Int64.toUInt64 63)).toInt64
def bc1 (x : Int64) : Int64 := x - (bsh x 1 &&& 6148914691236517205)
def bc2 (x : Int64) : Int64 := (x &&& 3689348814741910323) + (bsh x 2 &&& 3689348814741910323)
def bc3 (x : Int64) : Int64 := (x + bsh x 4) &&& 1085102592571150095
def bc4 (x : Int64) : Int64 := x + bsh x 8
def bc5 (x : Int64) : Int64 := x + bsh x 16
def bc6 (x : Int64) : Int64 := x + bsh x 32
theorem bc_def (p : Int64) : f_J13_bitCount_95d88 p = (bc6 (bc5 (bc4 (bc3 (bc2 (bc1 p)))))).toInt32 &&& 127 := rfl
def nv (x : Int64) : Nat := x.toBitVec.toNat
theorem nv_lt (x : Int64) : nv x < 2 ^ 64 := x.toBitVec.isLt
theorem nv_and (x y : Int64) : nv (x &&& y) = nv x &&& nv y := by
  unfold nv
  rw [Int64.toBitVec_and, BitVec.toNat_and]
theorem nv_add {x y : Int64} (h : nv x + nv y < 2 ^ 64) : nv (x + y) = nv x + nv y := by
  unfold nv at *
  rw [Int64.toBitVec_add, BitVec.toNat_add, Nat.mod_eq_of_lt h]
theorem nv_sub {x y : Int64} (h : nv y ≤ nv x) : nv (x - y) = nv x - nv y := by
  unfold nv at *
  rw [Int64.toBitVec_sub, BitVec.toNat_sub_of_le h]
theorem nv_sh (x : Int64) (n : Int32) (m : Nat) (h : (n.toInt64.toUInt64 &&& Int64.toUInt64 63).toNat % 64 = m) : nv (bsh x n) = nv x / 2 ^ m := by
  unfold nv bsh
  show (x.toUInt64 >>> (n.toInt64.toUInt64 &&& Int64.toUInt64 63)).toNat = _
  rw [UInt64.toNat_shiftRight, h, Nat.shiftRight_eq_div_pow]
  rfl
def rep (m : Nat) : Nat → Nat
  | 0 => 0
  | n + 1 => m + 256 * rep m n
def m8 (t : Nat → Nat) : Nat → Nat → Nat
  | 0, _ => 0
  | n + 1, x => t (x % 256) + 256 * m8 t n (x / 256)
theorem and_rep {m : Nat} (hm : m < 256) (n x : Nat) : x &&& rep m (n + 1) = (x % 256 &&& m) + 256 * (x / 256 &&& rep m n) := by
  have h1 : (x &&& rep m (n + 1)) % 2 ^ 8 = (x % 2 ^ 8) &&& (rep m (n + 1) % 2 ^ 8) := Nat.and_mod_two_pow
  have h2 : (x &&& rep m (n + 1)) / 2 ^ 8 = (x / 2 ^ 8) &&& (rep m (n + 1) / 2 ^ 8) := Nat.and_div_two_pow
  have h3 : rep m (n + 1) % 2 ^ 8 = m := by
    show (m + 256 * rep m n) % 2 ^ 8 = m
    omega
  have h4 : rep m (n + 1) / 2 ^ 8 = rep m n := by
    show (m + 256 * rep m n) / 2 ^ 8 = rep m n
    omega
  rw [h3] at h1
  rw [h4] at h2
  have h5 := Nat.div_add_mod (x &&& rep m (n + 1)) (2 ^ 8)
  rw [h1, h2] at h5
  rw [← h5, show (2 : Nat) ^ 8 = 256 from rfl, Nat.add_comm]
def t1 (b : Nat) : Nat := b - (b / 2 &&& 85)
def t2 (b : Nat) : Nat := (b &&& 51) + (b / 4 &&& 51)
def t3 (b : Nat) : Nat := b % 16 + b / 16
def pop (b : Nat) : Nat := t3 (t2 (t1 b))
theorem a1 : ∀ b, b < 256 → (b / 2 &&& 85) ≤ b ∧ ∀ e, e < 2 → (b / 2 + 128 * e) &&& 85 = b / 2 &&& 85 := by decide +kernel
theorem a2 : ∀ b, b < 256 → ∀ e, e < 4 → (b / 4 + 64 * e) &&& 51 = b / 4 &&& 51 := by decide +kernel
theorem a3 : ∀ b, b < 256 → b % 16 ≤ 4 → b / 16 ≤ 4 → ∀ e, e < 5 → (b + b / 16 + 16 * e) &&& 15 = b % 16 + b / 16 := by decide +kernel
theorem a4 : ∀ b, b < 256 → t1 b < 256 ∧ t2 (t1 b) < 256 ∧ t2 (t1 b) % 16 ≤ 4 ∧ t2 (t1 b) / 16 ≤ 4 ∧ pop b ≤ 8 ∧ cntB (fun i => Nat.testBit b i) 8 = pop b := by decide +kernel
theorem cl1 : ∀ n x, x < 256 ^ n → x - (x / 2 &&& rep 85 n) = m8 t1 n x ∧ (x / 2 &&& rep 85 n) ≤ x := by
  intro n
  induction n with
  | zero =>
    intro x h
    have : x = 0 := by simp at h; exact h
    subst this
    exact ⟨rfl, Nat.le_refl _⟩
  | succ n ih =>
    intro x h
    have hx : x / 256 < 256 ^ n := by
      rw [Nat.pow_succ] at h
      exact Nat.div_lt_of_lt_mul (by rw [Nat.mul_comm]; exact h)
    obtain ⟨i1, i2⟩ := ih _ hx
    obtain ⟨b1, b2⟩ := a1 (x % 256) (Nat.mod_lt _ (by decide))
    have b2 := b2 (x / 256 % 2) (Nat.mod_lt _ (by decide))
    have e1 : x / 2 % 256 = x % 256 / 2 + 128 * (x / 256 % 2) := by omega
    have e2 : x / 2 / 256 = x / 256 / 2 := by omega
    have e3 := and_rep (m := 85) (by decide) n (x / 2)
    rw [e1, e2, b2] at e3
    rw [e3]
    unfold m8
    rw [← i1]
    unfold t1
    have e4 := Nat.div_add_mod x 256
    omega
theorem cl2 : ∀ n x, (x &&& rep 51 n) + (x / 4 &&& rep 51 n) = m8 t2 n x := by
  intro n
  induction n with
  | zero =>
    intro x
    show (x &&& 0) + (x / 4 &&& 0) = 0
    rw [Nat.and_zero, Nat.and_zero]
  | succ n ih =>
    intro x
    have i1 := ih (x / 256)
    have b2 := a2 (x % 256) (Nat.mod_lt _ (by decide)) (x / 256 % 4) (Nat.mod_lt _ (by decide))
    have e1 : x / 4 % 256 = x % 256 / 4 + 64 * (x / 256 % 4) := by omega
    have e2 : x / 4 / 256 = x / 256 / 4 := by omega
    have e3 := and_rep (m := 51) (by decide) n (x / 4)
    rw [e1, e2, b2] at e3
    rw [e3, and_rep (by decide)]
    unfold m8
    rw [← i1]
    unfold t2
    omega
def okN : Nat → Nat → Prop
  | 0, y => y = 0
  | n + 1, y => y % 256 % 16 ≤ 4 ∧ y % 256 / 16 ≤ 4 ∧ okN n (y / 256)
theorem cl3 : ∀ n y, okN n y → (y + y / 16) &&& rep 15 n = m8 t3 n y := by
  intro n
  induction n with
  | zero =>
    intro y h
    show _ &&& 0 = 0
    rw [Nat.and_zero]
  | succ n ih =>
    intro y h
    obtain ⟨h1, h2, h3⟩ := h
    have i1 := ih _ h3
    have h4 : y / 256 % 16 ≤ 4 := by
      cases n with
      | zero => have : y / 256 = 0 := h3; omega
      | succ n => have := h3.1; omega
    have b2 := a3 (y % 256) (Nat.mod_lt _ (by decide)) h1 h2 (y / 256 % 16) (by omega)
    have e1 : (y + y / 16) % 256 = y % 256 + y % 256 / 16 + 16 * (y / 256 % 16) := by omega
    have e2 : (y + y / 16) / 256 = y / 256 + y / 256 / 16 := by omega
    rw [and_rep (by decide), e1, e2, b2, i1]
    rfl
theorem m8_m8 (t s : Nat → Nat) (hs : ∀ b, b < 256 → s b < 256) : ∀ n x, m8 t n (m8 s n x) = m8 (fun b => t (s b)) n x := by
  intro n
  induction n with
  | zero => intro x; rfl
  | succ n ih =>
    intro x
    have := hs (x % 256) (Nat.mod_lt _ (by decide))
    show t ((s (x % 256) + 256 * m8 s n (x / 256)) % 256) + 256 * m8 t n ((s (x % 256) + 256 * m8 s n (x / 256)) / 256) = _
    rw [show (s (x % 256) + 256 * m8 s n (x / 256)) % 256 = s (x % 256) by omega, show (s (x % 256) + 256 * m8 s n (x / 256)) / 256 = m8 s n (x / 256) by omega, ih]
    rfl
theorem okN_m8 (s : Nat → Nat) (hs : ∀ b, b < 256 → s b < 256 ∧ s b % 16 ≤ 4 ∧ s b / 16 ≤ 4) : ∀ n x, okN n (m8 s n x) := by
  intro n
  induction n with
  | zero => intro x; rfl
  | succ n ih =>
    intro x
    have h := hs (x % 256) (Nat.mod_lt _ (by decide))
    have e1 : m8 s (n + 1) x % 256 = s (x % 256) := by unfold m8; omega
    have e2 : m8 s (n + 1) x / 256 = m8 s n (x / 256) := by
      show (s (x % 256) + 256 * m8 s n (x / 256)) / 256 = _
      omega
    unfold okN
    rw [e1, e2]
    exact ⟨h.2.1, h.2.2, ih _⟩
theorem m8_lt (s : Nat → Nat) (hs : ∀ b, b < 256 → s b < 256) : ∀ n x, m8 s n x < 256 ^ n := by
  intro n
  induction n with
  | zero => intro x; exact Nat.one_pos
  | succ n ih =>
    intro x
    have h := hs (x % 256) (Nat.mod_lt _ (by decide))
    have := ih (x / 256)
    unfold m8
    rw [Nat.pow_succ]
    omega
theorem cntB_add (p : Nat → Bool) (m n : Nat) : cntB p (m + n) = cntB p m + cntB (fun i => p (m + i)) n := by
  induction n with
  | zero => rfl
  | succ n ih =>
    show cntB p (m + n) + _ = _ + (cntB (fun i => p (m + i)) n + _)
    rw [ih]
    exact Nat.add_assoc _ _ _
def psum : Nat → Nat → Nat
  | 0, _ => 0
  | n + 1, x => pop (x % 256) + psum n (x / 256)
theorem psum_cnt : ∀ n x, cntB (fun i => Nat.testBit x i) (8 * n) = psum n x := by
  intro n
  induction n with
  | zero => intro x; rfl
  | succ n ih =>
    intro x
    rw [show 8 * (n + 1) = 8 + 8 * n by omega, cntB_add]
    unfold psum
    rw [← ih, ← (a4 (x % 256) (Nat.mod_lt _ (by decide))).2.2.2.2.2]
    congr 1
    · apply cntB_congr
      intro i hi
      rw [show (256 : Nat) = 2 ^ 8 from rfl, Nat.testBit_mod_two_pow]
      simp [hi]
    · apply cntB_congr
      intro i hi
      rw [show (256 : Nat) = 2 ^ 8 from rfl, Nat.testBit_div_two_pow]
      rw [Nat.add_comm]
theorem m8_8 (t : Nat → Nat) (x : Nat) : m8 t 8 x = t (x % 256) + 256 * (t (x / 256 % 256) + 256 * (t (x / 256 / 256 % 256) + 256 * (t (x / 256 / 256 / 256 % 256) + 256 * (t (x / 256 / 256 / 256 / 256 % 256) + 256 * (t (x / 256 / 256 / 256 / 256 / 256 % 256) + 256 * (t (x / 256 / 256 / 256 / 256 / 256 / 256 % 256) + 256 * t (x / 256 / 256 / 256 / 256 / 256 / 256 / 256 % 256))))))) := by
  simp only [m8, Nat.mul_zero, Nat.add_zero]
theorem psum_8 (x : Nat) : psum 8 x = pop (x % 256) + (pop (x / 256 % 256) + (pop (x / 256 / 256 % 256) + (pop (x / 256 / 256 / 256 % 256) + (pop (x / 256 / 256 / 256 / 256 % 256) + (pop (x / 256 / 256 / 256 / 256 / 256 % 256) + (pop (x / 256 / 256 / 256 / 256 / 256 / 256 % 256) + pop (x / 256 / 256 / 256 / 256 / 256 / 256 / 256 % 256))))))) := by
  simp only [psum, Nat.add_zero]
theorem q1 {d0 : Nat} (y : Nat) (h0 : d0 < 256) : (d0 + 256 * y) / 256 = y := by omega
theorem q2 {d0 d1 : Nat} (y : Nat) (h0 : d0 < 256) (h1 : d1 < 256) : (d0 + 256 * (d1 + 256 * y)) / 65536 = y := by omega
theorem q4 {d0 d1 d2 d3 : Nat} (y : Nat) (h0 : d0 < 256) (h1 : d1 < 256) (h2 : d2 < 256) (h3 : d3 < 256) : (d0 + 256 * (d1 + 256 * (d2 + 256 * (d3 + 256 * y)))) / 4294967296 = y := by omega
def n8 (c0 c1 c2 c3 c4 c5 c6 c7 : Nat) : Nat := c0 + 256 * (c1 + 256 * (c2 + 256 * (c3 + 256 * (c4 + 256 * (c5 + 256 * (c6 + 256 * c7))))))
theorem n8_lt {c0 c1 c2 c3 c4 c5 c6 c7 : Nat} (p0 : c0 ≤ 64) (p1 : c1 ≤ 64) (p2 : c2 ≤ 64) (p3 : c3 ≤ 64) (p4 : c4 ≤ 64) (p5 : c5 ≤ 64) (p6 : c6 ≤ 64) (p7 : c7 ≤ 64) : n8 c0 c1 c2 c3 c4 c5 c6 c7 < 2 ^ 63 := by
  unfold n8
  omega
theorem n8_add (c0 c1 c2 c3 c4 c5 c6 c7 d0 d1 d2 d3 d4 d5 d6 d7 : Nat) : n8 c0 c1 c2 c3 c4 c5 c6 c7 + n8 d0 d1 d2 d3 d4 d5 d6 d7 = n8 (c0 + d0) (c1 + d1) (c2 + d2) (c3 + d3) (c4 + d4) (c5 + d5) (c6 + d6) (c7 + d7) := by
  unfold n8
  omega
theorem n8_1 {c0 c1 c2 c3 c4 c5 c6 c7 : Nat} (p0 : c0 ≤ 64) : n8 c0 c1 c2 c3 c4 c5 c6 c7 / 2 ^ 8 = n8 c1 c2 c3 c4 c5 c6 c7 0 := by
  show (c0 + 256 * _) / 256 = _
  rw [q1 _ (by omega)]
  rfl
theorem n8_2 {c0 c1 c2 c3 c4 c5 c6 c7 : Nat} (p0 : c0 ≤ 64) (p1 : c1 ≤ 64) : n8 c0 c1 c2 c3 c4 c5 c6 c7 / 2 ^ 16 = n8 c2 c3 c4 c5 c6 c7 0 0 := by
  show (c0 + 256 * (c1 + 256 * _)) / 65536 = _
  rw [q2 _ (by omega) (by omega)]
  rfl
theorem n8_4 {c0 c1 c2 c3 c4 c5 c6 c7 : Nat} (p0 : c0 ≤ 64) (p1 : c1 ≤ 64) (p2 : c2 ≤ 64) (p3 : c3 ≤ 64) : n8 c0 c1 c2 c3 c4 c5 c6 c7 / 2 ^ 32 = n8 c4 c5 c6 c7 0 0 0 0 := by
  show (c0 + 256 * (c1 + 256 * (c2 + 256 * (c3 + 256 * _)))) / 4294967296 = _
  rw [q4 _ (by omega) (by omega) (by omega) (by omega)]
  rfl
theorem n8_mod {c0 c1 c2 c3 c4 c5 c6 c7 : Nat} (p0 : c0 ≤ 64) : n8 c0 c1 c2 c3 c4 c5 c6 c7 % 256 = c0 := by
  unfold n8
  omega
theorem bitCount_eq (x : Int64) : f_J13_bitCount_95d88 x = Int32.ofNat (cntB (bt x) 64) := by
  rw [bc_def]
  have hlt : nv x < 256 ^ 8 := nv_lt x
  have k55 : nv 6148914691236517205 = rep 85 8 := by decide
  have k33 : nv 3689348814741910323 = rep 51 8 := by decide
  have k0f : nv 1085102592571150095 = rep 15 8 := by decide
  obtain ⟨c1, c2⟩ := cl1 8 (nv x) hlt
  have n1 : nv (bc1 x) = m8 t1 8 (nv x) := by
    unfold bc1
    rw [← c1]
    have e : nv (bsh x 1 &&& 6148914691236517205) = nv x / 2 &&& rep 85 8 := by rw [nv_and, nv_sh x 1 1 (by decide), k55]
    rw [nv_sub (by rw [e]; exact c2), e]
  have n2 : nv (bc2 (bc1 x)) = m8 (fun b => t2 (t1 b)) 8 (nv x) := by
    unfold bc2
    have e1 : nv (bc1 x &&& 3689348814741910323) = nv (bc1 x) &&& rep 51 8 := by rw [nv_and, k33]
    have e2 : nv (bsh (bc1 x) 2 &&& 3689348814741910323) = nv (bc1 x) / 4 &&& rep 51 8 := by rw [nv_and, nv_sh _ 2 2 (by decide), k33]
    have e3 := cl2 8 (nv (bc1 x))
    rw [n1, m8_m8 t2 t1 (fun b hb => (a4 b hb).1)] at e3
    have e4 := m8_lt (fun b => t2 (t1 b)) (fun b hb => (a4 b hb).2.1) 8 (nv x)
    rw [n1] at e1 e2
    have e5 : (256 : Nat) ^ 8 = 2 ^ 64 := by decide
    rw [nv_add (by rw [e1, e2, e3, ← e5]; exact e4), e1, e2, e3]
  have n3 : nv (bc3 (bc2 (bc1 x))) = m8 pop 8 (nv x) := by
    unfold bc3
    have ok := okN_m8 (fun b => t2 (t1 b)) (fun b hb => ⟨(a4 b hb).2.1, (a4 b hb).2.2.1, (a4 b hb).2.2.2.1⟩) 8 (nv x)
    have e3 := cl3 8 _ ok
    rw [m8_m8 t3 (fun b => t2 (t1 b)) (fun b hb => (a4 b hb).2.1)] at e3
    rw [← n2] at e3 ok
    have hb : nv (bc2 (bc1 x)) < 2 ^ 63 := by
      have h1 := ok.2.2.2.2.2.2.2.2.2.2.2.2.2.2.2.1
      have h2 := ok.2.2.2.2.2.2.2.2.2.2.2.2.2.2.1
      have h3 := nv_lt (bc2 (bc1 x))
      omega
    rw [nv_and, nv_add (by rw [nv_sh _ 4 4 (by decide)]; omega), nv_sh _ 4 4 (by decide), k0f]
    exact e3
  have hp : ∀ y, pop (y % 256) ≤ 8 := fun y => (a4 (y % 256) (Nat.mod_lt _ (by decide))).2.2.2.2.1
  have hz : nv (bc3 (bc2 (bc1 x))) = n8 _ _ _ _ _ _ _ _ := n3.trans (m8_8 pop (nv x))
  have hc : cntB (bt x) 64 = psum 8 (nv x) := (show cntB (bt x) 64 = cntB (fun i => Nat.testBit (nv x) i) (8 * 8) from cntB_congr (fun i _ => rfl)).trans (psum_cnt 8 (nv x))
  rw [psum_8] at hc
  have g0 := hp (nv x)
  have g1 := hp (nv x / 256)
  have g2 := hp (nv x / 256 / 256)
  have g3 := hp (nv x / 256 / 256 / 256)
  have g4 := hp (nv x / 256 / 256 / 256 / 256)
  have g5 := hp (nv x / 256 / 256 / 256 / 256 / 256)
  have g6 := hp (nv x / 256 / 256 / 256 / 256 / 256 / 256)
  have g7 := hp (nv x / 256 / 256 / 256 / 256 / 256 / 256 / 256)
  clear n1 n2 n3 c1 c2 hlt k55 k33 k0f hp
  generalize pop (nv x % 256) = c0 at *
  generalize pop (nv x / 256 % 256) = c1 at *
  generalize pop (nv x / 256 / 256 % 256) = c2 at *
  generalize pop (nv x / 256 / 256 / 256 % 256) = c3 at *
  generalize pop (nv x / 256 / 256 / 256 / 256 % 256) = c4 at *
  generalize pop (nv x / 256 / 256 / 256 / 256 / 256 % 256) = c5 at *
  generalize pop (nv x / 256 / 256 / 256 / 256 / 256 / 256 % 256) = c6 at *
  generalize pop (nv x / 256 / 256 / 256 / 256 / 256 / 256 / 256 % 256) = c7 at *
  generalize bc3 (bc2 (bc1 x)) = z at *
  have n4 : nv (bc4 z) = n8 (c0 + c1) (c1 + c2) (c2 + c3) (c3 + c4) (c4 + c5) (c5 + c6) (c6 + c7) (c7 + 0) := by
    unfold bc4
    have e : nv (bsh z 8) = n8 c1 c2 c3 c4 c5 c6 c7 0 := by rw [nv_sh _ 8 8 (by decide), hz, n8_1 (by omega)]
    have l1 : n8 c0 c1 c2 c3 c4 c5 c6 c7 < 2 ^ 63 := n8_lt (by omega) (by omega) (by omega) (by omega) (by omega) (by omega) (by omega) (by omega)
    have l2 : n8 c1 c2 c3 c4 c5 c6 c7 0 < 2 ^ 63 := n8_lt (by omega) (by omega) (by omega) (by omega) (by omega) (by omega) (by omega) (by omega)
    rw [nv_add (by rw [e, hz]; omega), e, hz, n8_add]
  generalize bc4 z = y at *
  have n5 : nv (bc5 y) = n8 (c0 + c1 + (c2 + c3)) (c1 + c2 + (c3 + c4)) (c2 + c3 + (c4 + c5)) (c3 + c4 + (c5 + c6)) (c4 + c5 + (c6 + c7)) (c5 + c6 + (c7 + 0)) (c6 + c7 + 0) (c7 + 0 + 0) := by
    unfold bc5
    have e : nv (bsh y 16) = n8 (c2 + c3) (c3 + c4) (c4 + c5) (c5 + c6) (c6 + c7) (c7 + 0) 0 0 := by rw [nv_sh _ 16 16 (by decide), n4, n8_2 (by omega) (by omega)]
    have l1 : n8 (c0 + c1) (c1 + c2) (c2 + c3) (c3 + c4) (c4 + c5) (c5 + c6) (c6 + c7) (c7 + 0) < 2 ^ 63 := n8_lt (by omega) (by omega) (by omega) (by omega) (by omega) (by omega) (by omega) (by omega)
    have l2 : n8 (c2 + c3) (c3 + c4) (c4 + c5) (c5 + c6) (c6 + c7) (c7 + 0) 0 0 < 2 ^ 63 := n8_lt (by omega) (by omega) (by omega) (by omega) (by omega) (by omega) (by omega) (by omega)
    rw [nv_add (by rw [e, n4]; omega), e, n4, n8_add]
  generalize bc5 y = w at *
  have n6 : nv (bc6 w) % 256 = c0 + c1 + (c2 + c3) + (c4 + c5 + (c6 + c7)) := by
    unfold bc6
    have e : nv (bsh w 32) = n8 (c4 + c5 + (c6 + c7)) (c5 + c6 + (c7 + 0)) (c6 + c7 + 0) (c7 + 0 + 0) 0 0 0 0 := by rw [nv_sh _ 32 32 (by decide), n5, n8_4 (by omega) (by omega) (by omega) (by omega)]
    have l1 : n8 (c0 + c1 + (c2 + c3)) (c1 + c2 + (c3 + c4)) (c2 + c3 + (c4 + c5)) (c3 + c4 + (c5 + c6)) (c4 + c5 + (c6 + c7)) (c5 + c6 + (c7 + 0)) (c6 + c7 + 0) (c7 + 0 + 0) < 2 ^ 63 := n8_lt (by omega) (by omega) (by omega) (by omega) (by omega) (by omega) (by omega) (by omega)
    have l2 : n8 (c4 + c5 + (c6 + c7)) (c5 + c6 + (c7 + 0)) (c6 + c7 + 0) (c7 + 0 + 0) 0 0 0 0 < 2 ^ 63 := n8_lt (by omega) (by omega) (by omega) (by omega) (by omega) (by omega) (by omega) (by omega)
    rw [nv_add (by rw [e, n5]; omega), e, n5, n8_add, n8_mod (by omega)]
  generalize bc6 w = v at *
  rw [hc]
  apply Int32.toBitVec_inj.mp
  apply BitVec.eq_of_toNat_eq
  rw [Int32.toBitVec_and, BitVec.toNat_and]
  have e1 : v.toInt32.toBitVec.toNat = nv v % 2 ^ 32 := by
    rw [Int64.toBitVec_toInt32, BitVec.signExtend_eq_setWidth_of_le _ (by decide), BitVec.toNat_setWidth]; rfl
  have e2 : (127 : Int32).toBitVec.toNat = 2 ^ 7 - 1 := by decide
  rw [e1, e2, Nat.and_two_pow_sub_one_eq_mod]
  show _ = (BitVec.ofNat 32 _).toNat
  rw [BitVec.toNat_ofNat]
  omega
