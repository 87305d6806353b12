/-! ===== the words of a reading counted ===== -/
def scS (r : Nat → Int32) (n : Nat) (lst : Nat → Nat → Bool) : Nat → Nat × Nat × Nat
  | 0 => (0, 0, 0)
  | i + 1 => if i = n ∨ r i = 32 then (if (scS r n lst i).2.2 < i then ((scS r n lst i).1 + 1, (scS r n lst i).2.1 + (if lst (scS r n lst i).2.2 (i - (scS r n lst i).2.2) then 1 else 0), i + 1) else ((scS r n lst i).1, (scS r n lst i).2.1, i + 1)) else scS r n lst i
def scR (r : Nat → Int32) (n : Nat) (lst : Nat → Nat → Bool) : Int32 := if 0 < (scS r n lst (n + 1)).1 ∧ (scS r n lst (n + 1)).2.1 = (scS r n lst (n + 1)).1 then Int32.ofNat (scS r n lst (n + 1)).2.1 else -1 - Int32.ofNat (scS r n lst (n + 1)).2.1
theorem scS_le (r : Nat → Int32) (n : Nat) (lst : Nat → Nat → Bool) (i : Nat) : (scS r n lst i).1 ≤ i ∧ (scS r n lst i).2.1 ≤ (scS r n lst i).1 ∧ (scS r n lst i).2.2 ≤ i := by
  induction i with
  | zero => exact ⟨Nat.le_refl _, Nat.le_refl _, Nat.le_refl _⟩
  | succ i ih =>
    unfold scS
    split
    · split
      · refine ⟨?_, ?_, ?_⟩
        · dsimp only; omega
        · dsimp only; split <;> omega
        · dsimp only; omega
      · refine ⟨?_, ?_, ?_⟩
        · dsimp only; omega
        · dsimp only; omega
        · dsimp only; omega
    · omega
def lsR (w : Wds) (L : List Int32) : Nat → Nat → Bool := fun s len => inW w (fun k => L.getD k 0) s len
/-- what a reading scores -/
def score (w : Wds) (L : List Int32) : Int32 := scR (fun k => L.getD k 0) L.length (lsR w L)
section SCO
variable {d nn Ln : Nat} {fz : Nat} {K : Post} {I : HI} {J : HJ} {w : Wds} {L : List Int32}
theorem sp_score (hn : 59 ≤ nn) (hw : WOK I w) (hL : LSt I L) (hl : L.length ≤ 294) (hK : K (.inl (some (.int (score w L)))) (hp fz nn (lay Ln) I J)) : cal (d + 5) 37 [.ref 53, .ref 5] (hp fz nn (lay Ln) I J) K := by
  have lp : ∀ m i : Nat, i + m = L.length + 1 → EX (cal (d + 4)) 37 K 10 [some (.ref 53), some (.ref 5), some (.int (Int32.ofNat (scS (fun k => L.getD k 0) L.length (lsR w L) i).1)), some (.int (Int32.ofNat (scS (fun k => L.getD k 0) L.length (lsR w L) i).2.1)), some (.int (Int32.ofNat (scS (fun k => L.getD k 0) L.length (lsR w L) i).2.2)), some (.int (Int32.ofNat i))] [] (0, 0) (hp fz nn (lay Ln) I J) := by
    intro m
    induction m with
    | zero =>
      intro i hi
      obtain rfl : i = L.length + 1 := hi
      have hle := scS_le (fun k => L.getD k 0) L.length (lsR w L) (L.length + 1)
      refine r_37_10 (d := d + 3) hn (if_y (by rw [hL.1]; exact lt_y (by omega) (by omega)) ?_)
      unfold score scR at hK
      by_cases h0 : 0 < (scS (fun k => L.getD k 0) L.length (lsR w L) (L.length + 1)).1
      · refine if_n (le_n (b := 0) h0 (by omega)) ?_
        by_cases h1 : (scS (fun k => L.getD k 0) L.length (lsR w L) (L.length + 1)).2.1 = (scS (fun k => L.getD k 0) L.length (lsR w L) (L.length + 1)).1
        · rw [if_pos ⟨h0, h1⟩] at hK
          exact if_y (by rw [h1]) hK
        · rw [if_neg (fun q => h1 q.2)] at hK
          exact if_n (fun q => h1 ((oN_eq (by omega) (by omega)).mp q)) hK
      · rw [if_neg (fun q => h0 q.1)] at hK
        exact if_y (le_y (b := 0) (by omega) (by decide)) hK
    | succ m ih =>
      intro i hi
      have ih := ih (i + 1) (by omega)
      have hle := scS_le (fun k => L.getD k 0) L.length (lsR w L) i
      refine r_37_10 (d := d + 3) hn (if_n (by rw [hL.1]; exact lt_n (by omega) (by omega)) ?_)
      have br : (i = L.length ∨ L.getD i 0 = 32) → (if Int32.ofNat i ≤ Int32.ofNat (scS (fun k => L.getD k 0) L.length (lsR w L) i).2.2 then (EX (cal (d + 4)) 37 K 10 [some (.ref 53), some (.ref 5), some (.int (Int32.ofNat (scS (fun k => L.getD k 0) L.length (lsR w L) i).1)), some (.int (Int32.ofNat (scS (fun k => L.getD k 0) L.length (lsR w L) i).2.1)), some (.int (Int32.ofNat i + 1)), some (.int (Int32.ofNat i + 1))] [] (0, 0) (hp fz nn (lay Ln) I J)) else (cal (d + 4) 77 [.ref 5, .ref 54, .int (Int32.ofNat (scS (fun k => L.getD k 0) L.length (lsR w L) i).2.2), .int (Int32.ofNat i - Int32.ofNat (scS (fun k => L.getD k 0) L.length (lsR w L) i).2.2)] (hp fz nn (lay Ln) I J) (KC (d + 4) 37 K 68 [some (.ref 53), some (.ref 5), some (.int (Int32.ofNat (scS (fun k => L.getD k 0) L.length (lsR w L) i).1 + 1)), some (.int (Int32.ofNat (scS (fun k => L.getD k 0) L.length (lsR w L) i).2.1)), some (.int (Int32.ofNat (scS (fun k => L.getD k 0) L.length (lsR w L) i).2.2)), some (.int (Int32.ofNat i))] [.int (Int32.ofNat (scS (fun k => L.getD k 0) L.length (lsR w L) i).2.1)] (0, 0) 77 (hp fz nn (lay Ln) I J)))) := by
        intro hq
        unfold scS at ih
        rw [if_pos hq] at ih
        by_cases hs : (scS (fun k => L.getD k 0) L.length (lsR w L) i).2.2 < i
        · rw [if_pos hs] at ih
          refine if_n (le_n hs (by omega)) ?_
          rw [oN_sub (by omega)]
          refine sp_findb (d := d) hn hw (by omega) (fun v hv => kc_v rfl rfl (r_37_68 (d := d + 3) hn ?_))
          have he : inW w (I 54) (scS (fun k => L.getD k 0) L.length (lsR w L) i).2.2 (i - (scS (fun k => L.getD k 0) L.length (lsR w L) i).2.2) = lsR w L (scS (fun k => L.getD k 0) L.length (lsR w L) i).2.2 (i - (scS (fun k => L.getD k 0) L.length (lsR w L) i).2.2) :=
            inW_congr (fun k hk => hL.2 _ (by omega))
          rw [he] at hv
          dsimp only at ih
          refine if_c (fun e => ?_) (fun e => ?_)
          · rw [hv.mp e] at ih
            rw [Int32.add_zero, oN_succ, oN_succ]
            exact ih
          · have : lsR w L (scS (fun k => L.getD k 0) L.length (lsR w L) i).2.2 (i - (scS (fun k => L.getD k 0) L.length (lsR w L) i).2.2) = true := by
              cases q : lsR w L (scS (fun k => L.getD k 0) L.length (lsR w L) i).2.2 (i - (scS (fun k => L.getD k 0) L.length (lsR w L) i).2.2) with
              | true => rfl
              | false => exact absurd (hv.mpr q) e
            rw [this] at ih
            rw [oN_succ, oN_succ, oN_succ]
            exact ih
        · rw [if_neg hs] at ih
          refine if_y (le_y (by omega) (by omega)) ?_
          rw [oN_succ]
          exact ih
      refine if_c (fun e => br (Or.inl ?_)) (fun e => ?_)
      · rw [hL.1] at e
        exact (oN_eq (by omega) (by omega)).mp e
      · have hne : i ≠ L.length := fun q => e (by rw [hL.1, q])
        rw [atI_oN (by omega) (by decide), hL.2 i (by omega)]
        refine if_c (fun e2 => br (Or.inr e2)) (fun e2 => ?_)
        have hnn : ¬ (i = L.length ∨ L.getD i 0 = 32) := fun q => q.elim hne e2
        unfold scS at ih
        rw [if_neg hnn] at ih
        rw [oN_succ]
        exact ih
  exact call_in (Nat.le_of_ble_eq_true rfl) rfl rfl (r_37_0 (d := d + 3) hn (lp (L.length + 1) 0 (by omega)))
theorem byteAt_eq (hL : LSt I L) (hl : L.length ≤ 294) {p : Int32} (h0 : 0 ≤ p) : f_X3_byteAt p I = if Int32.ofNat L.length ≤ p then -1 else L.getD p.toNatClampNeg 0 := by
  unfold f_X3_byteAt
  rw [hL.1]
  by_cases e : Int32.ofNat L.length ≤ p
  · rw [if_pos e, if_pos e]
  · rw [if_neg e, if_neg e]
    have h1 : p.toInt < L.length := by
      have := Int32.not_le.mp e
      rw [Int32.lt_iff_toInt_lt, oN_toInt (by omega)] at this
      exact this
    have h2 : 0 ≤ p.toInt := by
      rw [Int32.le_iff_toInt_le] at h0
      exact h0
    have h3 : p = Int32.ofNat p.toNatClampNeg := by
      rw [← Int32.toInt_inj, oN_toInt (by show p.toInt.toNat < 2 ^ 31; omega)]
      show p.toInt = (p.toInt.toNat : Int)
      omega
    have h4 : p.toNatClampNeg < L.length := by show p.toInt.toNat < _; omega
    rw [h3, atI_oN (by omega) (by decide), oN_clamp (by omega)]
    exact hL.2 _ h4
theorem byteAt_N (hL : LSt I L) (hl : L.length ≤ 294) {i : Nat} (hi : i < L.length) : f_X3_byteAt (Int32.ofNat i) I = L.getD i 0 := by
  rw [byteAt_eq hL hl (z_le (by omega)), if_neg (le_n hi (by omega)), oN_clamp (by omega)]
theorem byteAt_Nb (hL : LStb I L) (hl : L.length ≤ 294) {i : Nat} (hi : i < L.length) : f_X3_byteAtb (Int32.ofNat i) I = L.getD i 0 := by
  unfold f_X3_byteAtb
  rw [hL.1, if_neg (le_n hi (by omega)), atI_oN (by omega) (by decide)]
  exact hL.2 i hi
/-- two readings, byte by byte -/
theorem sp_hasBytes {M : List Int32} (hn : 59 ≤ nn) (hL : LSt I L) (hl : L.length ≤ 294) (hM : LStb I M) (hm : M.length ≤ 294) (hK : K (.inl (some (.int (b2 (decide (L = M)))))) (hp fz nn (lay Ln) I J)) : cal (d + 3) 36 [.ref 53, .ref 55] (hp fz nn (lay Ln) I J) K := by
  have ext : M.length = L.length → (∀ k, k < L.length → L.getD k 0 = M.getD k 0) → L = M := by
    intro h1 h2
    apply List.ext_getElem h1.symm
    intro i g1 g2
    have := h2 i g1
    simp only [List.getD, List.getElem?_eq_getElem g1, List.getElem?_eq_getElem g2, Option.getD_some] at this
    exact this
  have lp : ∀ m i : Nat, M.length = L.length → i + m = L.length → (∀ k, k < i → L.getD k 0 = M.getD k 0) → EX (cal (d + 2)) 36 K 15 [some (.ref 53), some (.ref 55), some (.int (Int32.ofNat i))] [] (0, 0) (hp fz nn (lay Ln) I J) := by
    intro m
    induction m with
    | zero =>
      intro i hlen hi h
      obtain rfl : i = L.length := hi
      refine r_36_15 hn (if_y (by rw [hL.1]; exact Int32.le_refl _) ?_)
      rw [decide_eq_true (ext hlen h)] at hK
      exact hK
    | succ m ih =>
      intro i hlen hi h
      refine r_36_15 hn (if_n (by rw [hL.1]; exact le_n (by omega) (by omega)) ?_)
      rw [byteAt_N hL hl (by omega), byteAt_Nb hM hm (by omega)]
      refine if_c (fun e => ?_) (fun e => ?_)
      · rw [oN_succ]
        refine ih (i + 1) hlen (by omega) (fun k hk => ?_)
        by_cases q : k = i
        · subst q; exact e
        · exact h k (by omega)
      · rw [decide_eq_false (fun q => e (by rw [q]))] at hK
        exact hK
  refine call_in (Nat.le_of_ble_eq_true rfl) rfl rfl (r_36_0 hn ?_)
  rw [hL.1, hM.1]
  refine if_c (fun e => ?_) (fun e => ?_)
  · exact lp L.length 0 ((oN_eq (by omega) (by omega)).mp e).symm (by omega) (fun k h => absurd h (by omega))
  · rw [decide_eq_false (fun q => e (by rw [q]))] at hK
    exact hK
end SCO
