/-! ===== small numbers as ints ===== -/
theorem oN_toInt {a : Nat} (h : a < 2 ^ 31) : (Int32.ofNat a).toInt = a := Int32.toInt_ofNat_of_lt h
theorem oN_le {a b : Nat} (ha : a < 2 ^ 31) (hb : b < 2 ^ 31) : Int32.ofNat a ≤ Int32.ofNat b ↔ a ≤ b := by
  rw [Int32.le_iff_toInt_le, oN_toInt ha, oN_toInt hb]; omega
theorem oN_lt {a b : Nat} (ha : a < 2 ^ 31) (hb : b < 2 ^ 31) : Int32.ofNat a < Int32.ofNat b ↔ a < b := by
  rw [Int32.lt_iff_toInt_lt, oN_toInt ha, oN_toInt hb]; omega
theorem oN_eq {a b : Nat} (ha : a < 2 ^ 31) (hb : b < 2 ^ 31) : Int32.ofNat a = Int32.ofNat b ↔ a = b := by
  rw [← Int32.toInt_inj, oN_toInt ha, oN_toInt hb]; omega
theorem oN_add (a b : Nat) : Int32.ofNat a + Int32.ofNat b = Int32.ofNat (a + b) := (Int32.ofNat_add a b).symm
theorem oN_mul (a b : Nat) : Int32.ofNat a * Int32.ofNat b = Int32.ofNat (a * b) := (Int32.ofNat_mul a b).symm
theorem oN_succ (a : Nat) : Int32.ofNat a + 1 = Int32.ofNat (a + 1) := (Int32.ofNat_add a 1).symm
theorem oN_sub {a b : Nat} (h : b ≤ a) : Int32.ofNat a - Int32.ofNat b = Int32.ofNat (a - b) := by
  have h1 : Int32.ofNat (a - b) + Int32.ofNat b = Int32.ofNat a := by rw [oN_add, Nat.sub_add_cancel h]
  rw [← h1, Int32.add_sub_cancel]
theorem oN_clamp {a : Nat} (h : a < 2 ^ 31) : (Int32.ofNat a).toNatClampNeg = a := by
  show (Int32.ofNat a).toInt.toNat = a
  rw [oN_toInt h]; omega
theorem oN_nneg {a : Nat} (h : a < 2 ^ 31) : ¬ Int32.ofNat a < 0 := by
  rw [Int32.lt_iff_toInt_lt, oN_toInt h]; simp
theorem oN_vin {a z : Nat} (h : a < z) (hz : z < 2 ^ 31) : vp_in (Int32.ofNat a) z := by
  rintro (h1 | h1)
  · exact oN_nneg (by omega) h1
  · rw [oN_clamp (by omega)] at h1; omega
theorem atI_oN {f : Nat → Int32} {z a : Nat} (h : a < z) (hz : z < 2 ^ 31) : atI f z (Int32.ofNat a) = f a := by
  unfold atI
  rw [if_neg (oN_nneg (by omega)), if_neg (by rw [oN_le hz (by omega)]; omega), oN_clamp (by omega)]
theorem atJ_oN {f : Nat → Int64} {z a : Nat} (h : a < z) (hz : z < 2 ^ 31) : atJ f z (Int32.ofNat a) = f a := by
  unfold atJ
  rw [if_neg (oN_nneg (by omega)), if_neg (by rw [oN_le hz (by omega)]; omega), oN_clamp (by omega)]
theorem pI2_oN {I : HI} {o z a : Nat} {v : Int32} (h : a < z) (hz : z < 2 ^ 31) : pI2 I o z (Int32.ofNat a) v = w2 I o a v := by
  rw [← w2_pI2 I o z _ v (oN_nneg (by omega)) (by rw [oN_le hz (by omega)]; omega), oN_clamp (by omega)]
theorem pJ2_oN {J : HJ} {o z a : Nat} {v : Int64} (h : a < z) (hz : z < 2 ^ 31) : pJ2 J o z (Int32.ofNat a) v = x2 J o a v := by
  rw [← x2_pJ2 J o z _ v (oN_nneg (by omega)) (by rw [oN_le hz (by omega)]; omega), oN_clamp (by omega)]
theorem w2_at (I : HI) (a k : Nat) (v : Int32) (a' k' : Nat) : w2 I a k v a' k' = if a' = a ∧ k' = k then v else I a' k' := by
  unfold w2
  by_cases h : a' = a
  · subst h
    rw [Nat.beq_refl]
    by_cases h2 : k' = k
    · subst h2; rw [Nat.beq_refl, if_pos ⟨rfl, rfl⟩]; rfl
    · rw [nbeq h2, if_neg (fun e => h2 e.2)]; rfl
  · rw [nbeq h, if_neg (fun e => h e.1)]; rfl
theorem x2_at (J : HJ) (a k : Nat) (v : Int64) (a' k' : Nat) : x2 J a k v a' k' = if a' = a ∧ k' = k then v else J a' k' := by
  unfold x2
  by_cases h : a' = a
  · subst h
    rw [Nat.beq_refl]
    by_cases h2 : k' = k
    · subst h2; rw [Nat.beq_refl, if_pos ⟨rfl, rfl⟩]; rfl
    · rw [nbeq h2, if_neg (fun e => h2 e.2)]; rfl
  · rw [nbeq h, if_neg (fun e => h e.1)]; rfl
theorem flI_at (I : HI) (a z : Nat) (v : Int32) (a' k' : Nat) : flI I a z v a' k' = if a' = a ∧ k' < z then v else I a' k' := by
  unfold flI
  by_cases h : a' = a
  · subst h
    simp
  · rw [nbeq h]; simp [h]
theorem flJ_at (J : HJ) (a z : Nat) (v : Int64) (a' k' : Nat) : flJ J a z v a' k' = if a' = a ∧ k' < z then v else J a' k' := by
  unfold flJ
  by_cases h : a' = a
  · subst h
    simp
  · rw [nbeq h]; simp [h]
theorem cpI_at (I : HI) (b a z : Nat) (a' k' : Nat) : cpI I b a z a' k' = if a' = a ∧ k' < z then I b k' else I a' k' := by
  unfold cpI
  by_cases h : a' = a
  · subst h
    simp
  · rw [nbeq h]; simp [h]
/-! the helpers' words -/
section HLP
variable {d nn Ln : Nat} {fz : Nat} {K : Post} {I : HI} {J : HJ} {o z : Nat} {cs : List Nat}
theorem sp_X8_at {i : Int32} (hn : 59 ≤ nn) (ho : o < nn) (hs : lay Ln o = (0, z, cs)) (hz : z < 2 ^ 31) (h : K (.inl (some (.int (atI (I o) z i)))) (hp fz nn (lay Ln) I J)) : cal (d + 1) 125 [.ref o, .int i] (hp fz nn (lay Ln) I J) K := by
  refine call_in (Nat.le_of_ble_eq_true rfl) rfl rfl (r_125_0 hn ho hs (if_c (fun c1 => ?_) (fun c1 => if_c (fun c2 => ?_) (fun c2 => ⟨vin hz c1 c2, ?_⟩))))
  · unfold atI at h; rw [if_pos c1] at h; exact h
  · unfold atI at h; rw [if_neg c1, if_pos c2] at h; exact h
  · unfold atI at h; rw [if_neg c1, if_neg c2] at h; exact h
theorem sp_X8_at_ {i : Int32} (hn : 59 ≤ nn) (ho : o < nn) (hs : lay Ln o = (1, z, cs)) (hz : z < 2 ^ 31) (h : K (.inl (some (.long (atJ (J o) z i)))) (hp fz nn (lay Ln) I J)) : cal (d + 1) 126 [.ref o, .int i] (hp fz nn (lay Ln) I J) K := by
  refine call_in (Nat.le_of_ble_eq_true rfl) rfl rfl (r_126_0 hn ho hs (if_c (fun c1 => ?_) (fun c1 => if_c (fun c2 => ?_) (fun c2 => ⟨vin hz c1 c2, ?_⟩))))
  · unfold atJ at h; rw [if_pos c1] at h; exact h
  · unfold atJ at h; rw [if_neg c1, if_pos c2] at h; exact h
  · unfold atJ at h; rw [if_neg c1, if_neg c2] at h; exact h
theorem sp_X8_put {i v : Int32} (hn : 59 ≤ nn) (ho : o < nn) (hs : lay Ln o = (0, z, cs)) (hz : z < 2 ^ 31) (h : K (.inl none) (hp fz nn (lay Ln) (pI2 I o z i v) J)) : cal (d + 1) 127 [.ref o, .int i, .int v] (hp fz nn (lay Ln) I J) K := by
  refine call_in (Nat.le_of_ble_eq_true rfl) rfl rfl (r_127_0 hn ho hs (if_c (fun c1 => ?_) (fun c1 => if_c (fun c2 => ?_) (fun c2 => ⟨vin hz c1 c2, ?_⟩))))
  · rw [pI2_out I o z i v (Or.inl c1)] at h; exact h
  · rw [pI2_out I o z i v (Or.inr c2)] at h; exact h
  · rw [w2_pI2 I o z i v c1 c2]; exact h
theorem sp_X8_put_ {i : Int32} {v : Int64} (hn : 59 ≤ nn) (ho : o < nn) (hs : lay Ln o = (1, z, cs)) (hz : z < 2 ^ 31) (h : K (.inl none) (hp fz nn (lay Ln) I (pJ2 J o z i v))) : cal (d + 1) 128 [.ref o, .int i, .long v] (hp fz nn (lay Ln) I J) K := by
  refine call_in (Nat.le_of_ble_eq_true rfl) rfl rfl (r_128_0 hn ho hs (if_c (fun c1 => ?_) (fun c1 => if_c (fun c2 => ?_) (fun c2 => ⟨vin hz c1 c2, ?_⟩))))
  · rw [pJ2_out J o z i v (Or.inl c1)] at h; exact h
  · rw [pJ2_out J o z i v (Or.inr c2)] at h; exact h
  · rw [x2_pJ2 J o z i v c1 c2]; exact h
theorem flI_succ (I : HI) (a q : Nat) (v : Int32) : w2 (flI I a q v) a q v = flI I a (q + 1) v := by
  funext a' k'
  rw [w2_at, flI_at, flI_at]
  by_cases h : a' = a ∧ k' = q
  · rw [if_pos h, if_pos ⟨h.1, by omega⟩]
  · rw [if_neg h]
    by_cases h2 : a' = a ∧ k' < q
    · rw [if_pos h2, if_pos ⟨h2.1, by omega⟩]
    · rw [if_neg h2, if_neg (fun e => by omega)]
theorem flJ_succ (J : HJ) (a q : Nat) (v : Int64) : x2 (flJ J a q v) a q v = flJ J a (q + 1) v := by
  funext a' k'
  rw [x2_at, flJ_at, flJ_at]
  by_cases h : a' = a ∧ k' = q
  · rw [if_pos h, if_pos ⟨h.1, by omega⟩]
  · rw [if_neg h]
    by_cases h2 : a' = a ∧ k' < q
    · rw [if_pos h2, if_pos ⟨h2.1, by omega⟩]
    · rw [if_neg h2, if_neg (fun e => by omega)]
theorem flI_zero (I : HI) (a : Nat) (v : Int32) : flI I a 0 v = I := by
  funext a' k'
  rw [flI_at, if_neg (by omega)]
theorem flJ_zero (J : HJ) (a : Nat) (v : Int64) : flJ J a 0 v = J := by
  funext a' k'
  rw [flJ_at, if_neg (by omega)]
theorem cpI_zero (I : HI) (b a : Nat) : cpI I b a 0 = I := by
  funext a' k'
  rw [cpI_at, if_neg (by omega)]
theorem cpI_succ (I : HI) (b a q : Nat) : w2 (cpI I b a q) a q (I b q) = cpI I b a (q + 1) := by
  funext a' k'
  rw [w2_at, cpI_at, cpI_at]
  by_cases h : a' = a ∧ k' = q
  · rw [if_pos h, if_pos ⟨h.1, by omega⟩, h.2]
  · rw [if_neg h]
    by_cases h2 : a' = a ∧ k' < q
    · rw [if_pos h2, if_pos ⟨h2.1, by omega⟩]
    · rw [if_neg h2, if_neg (fun e => by omega)]
theorem lp_fill {v : Int32} (hn : 59 ≤ nn) (ho : o < nn) (hs : lay Ln o = (0, z, cs)) (hz : z < 2 ^ 31) (h : K (.inl none) (hp fz nn (lay Ln) (flI I o z v) J)) (m : Nat) : ∀ q : Nat, q + m = z →
    EX (cal d) 201 K 5 [some (.ref o), some (.int v), some (.int (Int32.ofNat q)), some (.int (Int32.ofNat z))] [] (0, 0) (hp fz nn (lay Ln) (flI I o q v) J) := by
  induction m with
  | zero =>
    intro q hq
    obtain rfl : q = z := hq
    exact r_201_5 hn ho hs (if_y (Int32.le_refl _) h)
  | succ m ih =>
    intro q hq
    refine r_201_5 hn ho hs (if_n (by rw [oN_le hz (by omega)]; omega) ⟨oN_vin (by omega) hz, ?_⟩)
    rw [oN_succ, oN_clamp (by omega), flI_succ]
    exact ih (q + 1) (by omega)
theorem sp_fill {v : Int32} (hn : 59 ≤ nn) (ho : o < nn) (hs : lay Ln o = (0, z, cs)) (hz : z < 2 ^ 31) (h : K (.inl none) (hp fz nn (lay Ln) (flI I o z v) J)) : cal (d + 1) 201 [.ref o, .int v] (hp fz nn (lay Ln) I J) K := by
  refine call_in (Nat.le_of_ble_eq_true rfl) rfl rfl (r_201_0 hn ho hs ?_)
  have := lp_fill (d := d) hn ho hs hz h z 0 (by omega)
  rw [flI_zero] at this
  exact this
theorem lp_fillJ {v : Int64} (hn : 59 ≤ nn) (ho : o < nn) (hs : lay Ln o = (1, z, cs)) (hz : z < 2 ^ 31) (h : K (.inl none) (hp fz nn (lay Ln) I (flJ J o z v))) (m : Nat) : ∀ q : Nat, q + m = z →
    EX (cal d) 200 K 6 [some (.ref o), some (.long v), none, some (.int (Int32.ofNat q)), some (.int (Int32.ofNat z))] [] (0, 0) (hp fz nn (lay Ln) I (flJ J o q v)) := by
  induction m with
  | zero =>
    intro q hq
    obtain rfl : q = z := hq
    exact r_200_6 hn ho hs (if_y (Int32.le_refl _) h)
  | succ m ih =>
    intro q hq
    refine r_200_6 hn ho hs (if_n (by rw [oN_le hz (by omega)]; omega) ⟨oN_vin (by omega) hz, ?_⟩)
    rw [oN_succ, oN_clamp (by omega), flJ_succ]
    exact ih (q + 1) (by omega)
theorem sp_fillJ {v : Int64} (hn : 59 ≤ nn) (ho : o < nn) (hs : lay Ln o = (1, z, cs)) (hz : z < 2 ^ 31) (h : K (.inl none) (hp fz nn (lay Ln) I (flJ J o z v))) : cal (d + 1) 200 [.ref o, .long v] (hp fz nn (lay Ln) I J) K := by
  refine call_in (Nat.le_of_ble_eq_true rfl) rfl rfl (r_200_0 hn ho hs ?_)
  have := lp_fillJ (d := d) hn ho hs hz h z 0 (by omega)
  rw [flJ_zero] at this
  exact this
theorem lp_copy {o2 z2 : Nat} {cs2 : List Nat} (hn : 59 ≤ nn) (ho : o < nn) (hs : lay Ln o = (0, z, cs)) (ho2 : o2 < nn) (hs2 : lay Ln o2 = (0, z2, cs2)) (hz : z < 2 ^ 31) (hz2 : z2 < 2 ^ 31) (hne : o ≠ o2) (h : K (.inl none) (hp fz nn (lay Ln) (cpI I o o2 (min z z2)) J)) (m : Nat) : ∀ q : Nat, q + m = min z z2 →
    EX (cal d) 129 K 2 [some (.ref o), some (.ref o2), some (.int (Int32.ofNat q))] [] (0, 0) (hp fz nn (lay Ln) (cpI I o o2 q) J) := by
  induction m with
  | zero =>
    intro q hq
    obtain rfl : q = min z z2 := hq
    refine r_129_2 hn ho hs ho2 hs2 (if_c (fun _ => h) (fun c1 => if_y ?_ h))
    rw [oN_le hz (by omega)] at c1
    rw [oN_le hz2 (by omega)]
    omega
  | succ m ih =>
    intro q hq
    refine r_129_2 hn ho hs ho2 hs2 (if_n (by rw [oN_le hz (by omega)]; omega) (if_n (by rw [oN_le hz2 (by omega)]; omega) ⟨oN_vin (by omega) hz, oN_vin (by omega) hz2, ?_⟩))
    have e : cpI I o o2 q o q = I o q := by rw [cpI_at, if_neg (fun e => hne e.1)]
    rw [oN_succ, oN_clamp (by omega), e, cpI_succ]
    exact ih (q + 1) (by omega)
theorem sp_X8_copy {o2 z2 : Nat} {cs2 : List Nat} (hn : 59 ≤ nn) (ho : o < nn) (hs : lay Ln o = (0, z, cs)) (ho2 : o2 < nn) (hs2 : lay Ln o2 = (0, z2, cs2)) (hz : z < 2 ^ 31) (hz2 : z2 < 2 ^ 31) (hne : o ≠ o2) (h : K (.inl none) (hp fz nn (lay Ln) (cpI I o o2 (min z z2)) J)) : cal (d + 1) 129 [.ref o, .ref o2] (hp fz nn (lay Ln) I J) K := by
  refine call_in (Nat.le_of_ble_eq_true rfl) rfl rfl (r_129_0 hn ho hs ho2 hs2 ?_)
  have := lp_copy (d := d) hn ho hs ho2 hs2 hz hz2 hne h (min z z2) 0 (by omega)
  rw [cpI_zero] at this
  exact this
end HLP
