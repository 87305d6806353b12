/-! ===== the list: words added, removed, mixed; the text as a word ===== -/
def addW (w : Wds) (len : Nat) (T : Nat → Int32) : Wds := (w.1 + 1, fun i => if i = w.1 then len else w.2.1 i, fun i k => if i = w.1 then T k else w.2.2 i k)
def rmW (w : Wds) (q : Nat) : Wds := (w.1 - 1, fun i => if i < q then w.2.1 i else w.2.1 (i + 1), fun i k => if i < q then w.2.2 i k else w.2.2 (i + 1) k)
def TXT (I : HI) (t : Nat) (T : Nat → Int32) : Prop :=
  (I 57 1 = Int32.ofNat t) ∧
  (t ≤ 60) ∧
  (∀ k, k < t → I 58 k = T k)
theorem TXT.n {I : HI} {t : Nat} {T : Nat → Int32} (h : TXT I t T) : I 57 1 = Int32.ofNat t := h.1
theorem TXT.le {I : HI} {t : Nat} {T : Nat → Int32} (h : TXT I t T) : t ≤ 60 := h.2.1
theorem TXT.at_ {I : HI} {t : Nat} {T : Nat → Int32} (h : TXT I t T) : ∀ k, k < t → I 58 k = T k := h.2.2
theorem TXT.mk {I : HI} {t : Nat} {T : Nat → Int32} (c_n : I 57 1 = Int32.ofNat t) (c_le : t ≤ 60) (c_at_ : ∀ k, k < t → I 58 k = T k) : TXT I t T := ⟨c_n, c_le, c_at_⟩
theorem TXT.mono {I I' : HI} {t : Nat} {T : Nat → Int32} (h : TXT I t T) (h1 : I' 57 = I 57) (h2 : I' 58 = I 58) : TXT I' t T := TXT.mk (by rw [h1]; exact h.n) h.le (fun k hk => by rw [h2]; exact h.at_ k hk)
def isWB (t : Nat) (T : Nat → Int32) : Bool := decide (1 ≤ t) && decide (t ≤ 8) && allB (fun k => isLB (T k)) t
def mxW (w : Wds) (i : Nat) : Nat → Int64 → Int64
  | 0, h => h
  | k + 1, h => 31 * mxW w i k h + (w.2.2 i k - 97).toInt64
def mxL (w : Wds) : Nat → Int64 → Int64
  | 0, h => h
  | i + 1, h => mxW w i (w.2.1 i) (mxL w i h)
section LST
variable {d nn Ln : Nat} {fz : Nat} {K : Post} {I : HI} {J : HJ} {w : Wds} {t : Nat} {T : Nat → Int32}
theorem sp_addW (hn : 59 ≤ nn) (hw : WOK I w) (hT : TXT I t T) (h1 : 1 ≤ t) (h8 : t ≤ 8) (hw8 : w.1 < 8) (hK : ∀ I', (∀ a, ¬ (5 ≤ a ∧ a ≤ 7) → I' a = I a) → WOK I' (addW w t T) → K (.inl (some (.int (Int32.ofNat w.1)))) (hp fz nn (lay Ln) I' J)) :
    cal (d + 2) 75 [.ref 5, .ref 58, .int (Int32.ofNat t)] (hp fz nn (lay Ln) I J) K := by
  have lp : ∀ m q : Nat, q + m = t → ∀ I', (∀ a, a ≠ 7 → I' a = I a) → (∀ i, i < w.1 → ∀ k, k < w.2.1 i → I' 7 (8 * i + k) = w.2.2 i k) → (∀ k, k < q → I' 7 (8 * w.1 + k) = T k) →
      EX (cal (d + 1)) 75 K 8 [some (.ref 5), some (.ref 58), some (.int (Int32.ofNat t)), some (.int (Int32.ofNat w.1)), some (.int (Int32.ofNat q))] [] (0, 0) (hp fz nn (lay Ln) I' J) := by
    intro m
    induction m with
    | zero =>
      intro q hq I' hf hl hc
      obtain rfl : q = t := hq
      refine r_75_8 hn (if_y (Int32.le_refl _) ?_)
      rw [hf 5 (by decide), hw.n, oN_succ, pI2_oN hw8 (by decide)]
      have hn5 : ∀ a, ¬ (5 ≤ a ∧ a ≤ 7) → w2 (w2 I' 6 w.1 (Int32.ofNat q)) 5 0 (Int32.ofNat (w.1 + 1)) a = I a := fun a ha => by
        rw [w2_other _ _ _ (by omega), w2_other _ _ _ (by omega)]; exact hf a (by omega)
      refine hK _ hn5 (WOK.mk ?_ ?_ (fun i hi => ?_) (fun i hi => ?_) (fun i hi k hk => ?_))
      · rw [w2_at, if_pos ⟨rfl, rfl⟩]; rfl
      · show w.1 + 1 ≤ 8; omega
      · have hi : i < w.1 + 1 := hi
        rw [w2_ne _ _ (by decide), w2_at]
        show _ = Int32.ofNat (if i = w.1 then q else w.2.1 i)
        by_cases e : i = w.1
        · subst e; rw [if_pos ⟨rfl, rfl⟩, if_pos rfl]
        · rw [if_neg (fun h => e h.2), if_neg e, hf 6 (by decide)]; exact hw.ln i (by omega)
      · have hi : i < w.1 + 1 := hi
        show 1 ≤ (if i = w.1 then q else w.2.1 i) ∧ (if i = w.1 then q else w.2.1 i) ≤ 8
        by_cases e : i = w.1
        · rw [if_pos e]; exact ⟨h1, h8⟩
        · rw [if_neg e]; exact hw.l8 i (by omega)
      · have hi : i < w.1 + 1 := hi
        rw [w2_ne _ _ (by decide), w2_ne _ _ (by decide)]
        show _ = if i = w.1 then T k else w.2.2 i k
        have hk : k < (if i = w.1 then q else w.2.1 i) := hk
        by_cases e : i = w.1
        · subst e; rw [if_pos rfl] at hk ⊢; exact hc k hk
        · rw [if_neg e] at hk ⊢; exact hl i (by omega) k hk
    | succ m ih =>
      intro q hq I' hf hl hc
      refine r_75_8 hn (if_n (le_n (by omega) (by omega)) (if_n (le_n (a := 8) (by omega) (by decide)) ?_))
      rw [wix, atI_oN (by omega) (by decide), hf 58 (by decide), hT.at_ q (by omega), pI2_oN (by omega) (by decide), oN_succ]
      refine ih (q + 1) (by omega) _ (fun a ha => ?_) (fun i hi k hk => ?_) (fun k hk => ?_)
      · rw [w2_other _ _ _ ha]; exact hf a ha
      · have := hw.l8 i hi
        rw [w2_at, if_neg (by omega)]; exact hl i hi k hk
      · rw [w2_at]
        by_cases e : k = q
        · subst e; rw [if_pos ⟨rfl, rfl⟩]
        · rw [if_neg (by omega)]; exact hc k (by omega)
  refine call_in (Nat.le_of_ble_eq_true rfl) rfl rfl (r_75_0 hn ?_)
  rw [hw.n]
  exact lp t 0 (by omega) I (fun _ _ => rfl) hw.lt (fun k h => absurd h (by omega))
theorem sp_rmW (hn : 59 ≤ nn) (hw : WOK I w) {q : Nat} (hq : q < w.1) (hK : ∀ I', (∀ a, ¬ (5 ≤ a ∧ a ≤ 7) → I' a = I a) → WOK I' (rmW w q) → K (.inl none) (hp fz nn (lay Ln) I' J)) :
    cal (d + 3) 76 [.ref 5, .int (Int32.ofNat q)] (hp fz nn (lay Ln) I J) K := by
  have hn8 := hw.n8
  -- words 0 .. r-2 are the new ones, words from r on the old ones
  let Inv : Nat → HI → Prop := fun r I' => (∀ a, a ≠ 7 → a ≠ 6 → I' a = I a) ∧ (∀ i, i + 1 < r → I' 6 i = Int32.ofNat ((rmW w q).2.1 i)) ∧ (∀ i, r ≤ i → i < w.1 → I' 6 i = Int32.ofNat (w.2.1 i)) ∧
    (∀ i, i + 1 < r → ∀ k, k < (rmW w q).2.1 i → I' 7 (8 * i + k) = (rmW w q).2.2 i k) ∧ (∀ i, r ≤ i → i < w.1 → ∀ k, k < w.2.1 i → I' 7 (8 * i + k) = w.2.2 i k)
  have new : ∀ i, q ≤ i → (rmW w q).2.1 i = w.2.1 (i + 1) ∧ (rmW w q).2.2 i = w.2.2 (i + 1) := fun i hi => by
    constructor
    · show (if i < q then w.2.1 i else w.2.1 (i + 1)) = _
      rw [if_neg (by omega)]
    · show (fun k => if i < q then w.2.2 i k else w.2.2 (i + 1) k) = _
      funext k
      rw [if_neg (by omega)]
  have lp2 : ∀ r, q + 1 ≤ r → r < w.1 → (∀ I', Inv (r + 1) I' → EX (cal (d + 2)) 76 K 4 [some (.ref 5), none, some (.int (Int32.ofNat (r + 1))), none] [] (0, 0) (hp fz nn (lay Ln) I' J)) →
      ∀ m c : Nat, c + m = 8 → ∀ I', Inv r I' → (∀ k, k < c → k < w.2.1 r → I' 7 (8 * (r - 1) + k) = w.2.2 r k) →
        EX (cal (d + 2)) 76 K 14 [some (.ref 5), none, some (.int (Int32.ofNat r)), some (.int (Int32.ofNat c))] [] (0, 0) (hp fz nn (lay Ln) I' J) := by
    intro r hr1 hr2 hnext m
    have er : Int32.ofNat r - 1 = Int32.ofNat (r - 1) := oN_sub (b := 1) (by omega)
    have h8 := hw.l8 r hr2
    induction m with
    | zero =>
      intro c hc I' hI hcp
      obtain rfl : c = 8 := hc
      refine r_76_14 hn (if_y (Int32.le_refl _) ?_)
      rw [er, oN_succ, atI_oN (by omega) (by decide), pI2_oN (by omega) (by decide), hI.2.2.1 r (Nat.le_refl _) hr2]
      refine hnext _ ⟨fun a h7 h6 => ?_, fun i hi => ?_, fun i hi hi2 => ?_, fun i hi k hk => ?_, fun i hi hi2 k hk => ?_⟩
      · rw [w2_other _ _ _ h6]; exact hI.1 a h7 h6
      · rw [w2_at]
        by_cases e : i = r - 1
        · rw [if_pos ⟨rfl, e⟩, (new i (by omega)).1, show i + 1 = r by omega]
        · rw [if_neg (fun h => e h.2)]; exact hI.2.1 i (by omega)
      · rw [w2_at, if_neg (by omega)]; exact hI.2.2.1 i (by omega) hi2
      · rw [w2_ne _ _ (by decide)]
        by_cases e : i = r - 1
        · rw [(new i (by omega)).1, show i + 1 = r by omega] at hk
          rw [(new i (by omega)).2, show i + 1 = r by omega, e]
          exact hcp k (by omega) hk
        · exact hI.2.2.2.1 i (by omega) k hk
      · rw [w2_ne _ _ (by decide)]; exact hI.2.2.2.2 i (by omega) hi2 k hk
    | succ m ih =>
      intro c hc I' hI hcp
      refine r_76_14 hn (if_n (le_n (a := 8) (by omega) (by decide)) ?_)
      rw [er, wix, wix, oN_succ, atI_oN (by omega) (by decide), pI2_oN (by omega) (by decide)]
      refine ih (c + 1) (by omega) _ ⟨fun a h7 h6 => ?_, fun i hi => ?_, fun i hi hi2 => ?_, fun i hi k hk => ?_, fun i hi hi2 k hk => ?_⟩ (fun k hk hk2 => ?_)
      · rw [w2_other _ _ _ h7]; exact hI.1 a h7 h6
      · rw [w2_ne _ _ (by decide)]; exact hI.2.1 i hi
      · rw [w2_ne _ _ (by decide)]; exact hI.2.2.1 i hi hi2
      · have hk8 : k < 8 := by
          by_cases e : i < q
          · have e2 : (rmW w q).2.1 i = w.2.1 i := if_pos e
            have := hw.l8 i (by omega)
            omega
          · rw [(new i (by omega)).1] at hk
            have := hw.l8 (i + 1) (by omega)
            omega
        rw [w2_at, if_neg (by omega)]; exact hI.2.2.2.1 i hi k hk
      · have := hw.l8 i hi2
        rw [w2_at, if_neg (by omega)]; exact hI.2.2.2.2 i hi hi2 k hk
      · rw [w2_at]
        by_cases e : k = c
        · subst e
          rw [if_pos ⟨rfl, rfl⟩]
          exact hI.2.2.2.2 r (Nat.le_refl _) hr2 k hk2
        · rw [if_neg (by omega)]; exact hcp k (by omega) hk2
  have lp : ∀ m r : Nat, r + m = w.1 → q + 1 ≤ r → ∀ I', Inv r I' → EX (cal (d + 2)) 76 K 4 [some (.ref 5), none, some (.int (Int32.ofNat r)), none] [] (0, 0) (hp fz nn (lay Ln) I' J) := by
    intro m
    induction m with
    | zero =>
      intro r hr hq2 I' hI
      obtain rfl : r = w.1 := hr
      have e5 : I' 5 0 = Int32.ofNat w.1 := by rw [hI.1 5 (by decide) (by decide)]; exact hw.n
      have e1 : Int32.ofNat w.1 - 1 = Int32.ofNat (w.1 - 1) := oN_sub (b := 1) (by omega)
      refine r_76_4 hn (if_y (by rw [e5]; exact Int32.le_refl _) ?_)
      rw [e5, e1]
      refine hK _ (fun a ha => ?_) (WOK.mk ?_ ?_ (fun i hi => ?_) (fun i hi => ?_) (fun i hi k hk => ?_))
      · rw [w2_other _ _ _ (by omega)]; exact hI.1 a (by omega) (by omega)
      · rw [w2_at, if_pos ⟨rfl, rfl⟩]; rfl
      · show w.1 - 1 ≤ 8; omega
      · have hi : i < w.1 - 1 := hi
        rw [w2_ne _ _ (by decide)]; exact hI.2.1 i (by omega)
      · have hi : i < w.1 - 1 := hi
        by_cases e : i < q
        · have e2 : (rmW w q).2.1 i = w.2.1 i := if_pos e
          rw [e2]; exact hw.l8 i (by omega)
        · rw [(new i (by omega)).1]; exact hw.l8 (i + 1) (by omega)
      · have hi : i < w.1 - 1 := hi
        rw [w2_ne _ _ (by decide)]; exact hI.2.2.2.1 i (by omega) k hk
    | succ m ih =>
      intro r hr hq2 I' hI
      have e5 : I' 5 0 = Int32.ofNat w.1 := by rw [hI.1 5 (by decide) (by decide)]; exact hw.n
      refine r_76_4 hn (if_n (by rw [e5]; exact le_n (by omega) (by omega)) ?_)
      exact lp2 r hq2 (by omega) (fun I2 h2 => ih (r + 1) (by omega) (by omega) I2 h2) 8 0 (by omega) I' hI (fun k h => absurd h (by omega))
  refine call_in (Nat.le_of_ble_eq_true rfl) rfl rfl (r_76_0 hn ?_)
  rw [oN_succ]
  refine lp (w.1 - (q + 1)) (q + 1) (by omega) (Nat.le_refl _) I ⟨fun _ _ _ => rfl, fun i hi => ?_, fun i _ hi => hw.ln i hi, fun i hi k hk => ?_, fun i _ hi => hw.lt i hi⟩
  · have e2 : (rmW w q).2.1 i = w.2.1 i := if_pos (by omega)
    rw [e2]; exact hw.ln i (by omega)
  · have e2 : (rmW w q).2.1 i = w.2.1 i := if_pos (by omega)
    have e3 : (rmW w q).2.2 i k = w.2.2 i k := if_pos (by omega)
    rw [e2] at hk
    rw [e3]; exact hw.lt i (by omega) k hk
theorem sp_isWord (hn : 59 ≤ nn) (hT : TXT I t T) (hK : K (.inl (some (.int (b2 (isWB t T))))) (hp fz nn (lay Ln) I J)) : cal (d + 3) 65 [.ref 57] (hp fz nn (lay Ln) I J) K := by
  have ht := hT.le
  have e0 : f_X8_isWithin (I 57 1) (1 : Int32) (8 : Int32) = b2 (decide (1 ≤ t) && decide (t ≤ 8)) := by
    rw [f_within, hT.n]
    congr 2
    · exact decide_eq_decide.mpr (oN_le (a := 1) (by decide) (by omega))
    · exact decide_eq_decide.mpr (oN_le (b := 8) (by omega) (by decide))
  unfold isWB at hK
  have lp : ∀ m k : Nat, k + m = t → (∀ j, j < k → isLB (T j) = true) → K (.inl (some (.int (b2 (allB (fun k => isLB (T k)) t))))) (hp fz nn (lay Ln) I J) → EX (cal (d + 2)) 65 K 17 [some (.ref 57), some (.int (Int32.ofNat k))] [] (0, 0) (hp fz nn (lay Ln) I J) := by
    intro m
    induction m with
    | zero =>
      intro k hk h hK
      obtain rfl : k = t := hk
      refine r_65_17 hn (if_y (by rw [hT.n]; exact Int32.le_refl _) ?_)
      rw [allB_iff.mpr h] at hK
      exact hK
    | succ m ih =>
      intro k hk h hK
      refine r_65_17 hn (if_n (by rw [hT.n]; exact le_n (by omega) (by omega)) ?_)
      rw [atI_oN (by omega) (by decide), hT.at_ k (by omega), f_letter, oN_succ]
      refine if_c (fun e => ?_) (fun e => ?_)
      · rw [allB_no (p := fun k => isLB (T k)) (i := k) (by omega) ((b2_0 _).mp e)] at hK
        exact hK
      · refine ih (k + 1) (by omega) (fun j hj => ?_) hK
        by_cases q : j = k
        · subst q
          cases e2 : isLB (T j) with
          | true => rfl
          | false => rw [e2] at e; exact absurd rfl e
        · exact h j (by omega)
  refine call_in (Nat.le_of_ble_eq_true rfl) rfl rfl (r_65_0 hn ?_)
  rw [e0]
  refine if_c (fun e => ?_) (fun e => ?_)
  · rw [(b2_0 _).mp e, Bool.false_and] at hK
    exact hK
  · have e2 : (decide (1 ≤ t) && decide (t ≤ 8)) = true := by
      cases e2 : (decide (1 ≤ t) && decide (t ≤ 8)) with
      | true => rfl
      | false => rw [e2] at e; exact absurd rfl e
    rw [e2, Bool.true_and] at hK
    exact lp t 0 (by omega) (fun j h => absurd h (by omega)) hK
end LST
