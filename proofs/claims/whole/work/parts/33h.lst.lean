/-! ===== the reference's list and text ===== -/
section LS9
variable {d nn Ln : Nat} {fz : Bool} {K : Post} {I : HI} {J : HJ} {W H : Nat} {C : Cel} {w : Wds} {hs : List Sav} {t : Nat} {T : Nat → Int32}
theorem m9 (i : Nat) : (9 : Int32) * Int32.ofNat i = Int32.ofNat (9 * i) := oN_mul 9 i
theorem a52 (i : Nat) : (52 : Int32) + Int32.ofNat i = Int32.ofNat (52 + i) := oN_add 52 i
theorem sp_isLike {i : Nat} (hn : 74 ≤ nn) (hR : RfS I W H C w hs t T) (ht8 : t ≤ 8) (hi : i < w.1) (hK : K (.inl (some (.int (b2 (wEq w T 0 t i))))) (hp fz nn (lay Ln) I J)) : cal (d + 1) 152 [.ref 59, .int (Int32.ofNat i)] (hp fz nn (lay Ln) I J) K := by
  have hw := hR.ws
  have hn8 := hw.n8
  have h8 := hw.l8 i hi
  refine call_in (Nat.le_of_ble_eq_true rfl) rfl rfl (r_152_0 hn ?_)
  rw [m9, a52, oN_clamp (by omega), hw.ln i hi, hR.tn]
  refine ⟨oN_vin (by omega) (by decide), if_c (fun e => ?_) (fun e => ?_)⟩
  · have e := (oN_eq (by omega) (by omega)).mp e
    have lp : ∀ m k, k + m = t → (∀ j, j < k → w.2.2 i j = T j) → EX (cal d) 152 K 27 [some (.ref 59), some (.int (Int32.ofNat i)), some (.int 1), some (.int (Int32.ofNat k))] [] (0, 0) (hp fz nn (lay Ln) I J) := by
      intro m
      induction m with
      | zero =>
        intro k hk hall
        obtain rfl : k = t := hk
        refine r_152_27 hn (if_y (by rw [hR.tn]; exact Int32.le_refl _) ⟨Or.inr rfl, ?_⟩)
        have : wEq w T 0 k i = true := by
          unfold wEq
          rw [decide_eq_true e, Bool.true_and, allB_iff]
          intro j hj
          exact decide_eq_true (by rw [Nat.zero_add]; exact hall j (by omega))
        rw [this] at hK
        exact hK
      | succ m ih =>
        intro k hk hall
        refine r_152_27 hn (if_n (by rw [hR.tn]; exact le_n (by omega) (by omega)) (if_n (by decide) ?_))
        have e1 : Int32.ofNat (52 + 9 * i) + 1 + Int32.ofNat k = Int32.ofNat (53 + 9 * i + k) := by
          rw [oN_succ, oN_add]; congr 1; omega
        rw [m9, a52, e1, oN_clamp (by omega), oN_clamp (by omega), hw.lt i hi k (by omega), hR.ta k (by omega), oN_succ]
        refine ⟨oN_vin (by omega) (by decide), oN_vin (by omega) (by decide), if_c (fun z => ?_) (fun z => ?_)⟩
        · have z := sub97.mp z
          refine ih (k + 1) (by omega) (fun j hj => ?_)
          by_cases y : j = k
          · subst y; exact z
          · exact hall j (by omega)
        · have : wEq w T 0 t i = false := by
            unfold wEq
            rw [allB_no (p := fun j => decide (w.2.2 i j = T (0 + j))) (i := k) (by omega) (decide_eq_false (fun y => z (by rw [Nat.zero_add] at y; rw [y]))), Bool.and_false]
          rw [this] at hK
          exact r_152_27 hn (if_c (fun _ => ⟨Or.inl rfl, hK⟩) (fun _ => if_y rfl ⟨Or.inl rfl, hK⟩))
    exact lp t 0 (Nat.zero_add _) (fun j h => absurd h (Nat.not_lt_zero j))
  · have hf : wEq w T 0 t i = false := by
      unfold wEq
      rw [decide_eq_false (fun z => e (by rw [z])), Bool.false_and]
    rw [hf] at hK
    exact r_152_27 hn (if_c (fun _ => ⟨Or.inl rfl, hK⟩) (fun _ => if_y rfl ⟨Or.inl rfl, hK⟩))
theorem sp_canAdd (hn : 74 ≤ nn) (hR : RfS I W H C w hs t T) (hK : K (.inl (some (.int (b2 (canW w t T))))) (hp fz nn (lay Ln) I J)) : cal (d + 2) 153 [.ref 59] (hp fz nn (lay Ln) I J) K := by
  have hw := hR.ws
  have hn8 := hw.n8
  have ht := hR.t60
  -- it cannot
  have no : canW w t T = false → ∀ k, EX (cal (d + 1)) 153 K 67 [some (.ref 59), some (.int 0), some (.int k)] [] (0, 0) (hp fz nn (lay Ln) I J) := by
    intro e k
    rw [e] at hK
    exact r_153_67 hn (if_c (fun _ => ⟨Or.inl rfl, hK⟩) (fun _ => if_y rfl ⟨Or.inl rfl, hK⟩))
  have no2 : canW w t T = false → ∀ k, EX (cal (d + 1)) 153 K 33 [some (.ref 59), some (.int 0), some (.int k)] [] (0, 0) (hp fz nn (lay Ln) I J) := by
    intro e k
    exact r_153_33 hn (if_c (fun _ => no e _) (fun _ => if_y rfl (no e _)))
  have lp2 : t ≤ 8 → isWB t T = true → w.1 < 8 → ∀ m i, i + m = w.1 → (∀ j, j < i → wEq w T 0 t j = false) → EX (cal (d + 1)) 153 K 67 [some (.ref 59), some (.int 1), some (.int (Int32.ofNat i))] [] (0, 0) (hp fz nn (lay Ln) I J) := by
    intro ht8 hwb h8 m
    induction m with
    | zero =>
      intro i hi hall
      obtain rfl : i = w.1 := hi
      refine r_153_67 hn (if_y (by rw [hw.n]; exact Int32.le_refl _) ⟨Or.inr rfl, ?_⟩)
      have e1 : inW w T 0 t = false := by
        unfold inW
        cases q : anyB (wEq w T 0 t) w.1 with
        | false => rfl
        | true =>
          obtain ⟨j, h1, h2⟩ := anyB_iff.mp q
          rw [hall j h1] at h2; cases h2
      have : canW w t T = true := by unfold canW; rw [hwb, decide_eq_true h8, e1]; rfl
      rw [this] at hK
      exact hK
    | succ m ih =>
      intro i hi hall
      refine r_153_67 hn (if_n (by rw [hw.n]; exact le_n (by omega) (by omega)) (if_n (by decide) (sp_isLike (d := d) hn hR ht8 (by omega) (kc_v rfl rfl (r_153_87 hn ?_)))))
      rw [oN_succ]
      refine b2c (fun e => ih (i + 1) (by omega) (fun j hj => ?_)) (fun e => no ?_ _)
      · by_cases y : j = i
        · subst y; exact e
        · exact hall j (by omega)
      · have : inW w T 0 t = true := by unfold inW; exact anyB_iff.mpr ⟨i, by omega, e⟩
        unfold canW
        rw [this, show (!true) = false from rfl, Bool.and_false]
  have lp : t ≤ 8 → 1 ≤ t → w.1 < 8 → ∀ m k, k + m = t → (∀ j, j < k → isLB (T j) = true) → EX (cal (d + 1)) 153 K 33 [some (.ref 59), some (.int 1), some (.int (Int32.ofNat k))] [] (0, 0) (hp fz nn (lay Ln) I J) := by
    intro ht8 ht1 h8 m
    induction m with
    | zero =>
      intro k hk hall
      obtain rfl : k = t := hk
      refine r_153_33 hn (if_y (by rw [hR.tn]; exact Int32.le_refl _) (lp2 ht8 ?_ h8 w.1 0 (Nat.zero_add _) (fun j h => absurd h (Nat.not_lt_zero j))))
      unfold isWB
      rw [decide_eq_true ht1, decide_eq_true ht8, allB_iff.mpr hall]; rfl
    | succ m ih =>
      intro k hk hall
      refine r_153_33 hn (if_n (by rw [hR.tn]; exact le_n (by omega) (by omega)) (if_n (by decide) ⟨oN_vin (by omega) (by decide), ?_⟩))
      rw [oN_clamp (by omega), hR.ta k (by omega), f9_in, oN_succ]
      have e2 : wi (T k) 97 122 = isLB (T k) := rfl
      rw [e2]
      cases e : isLB (T k) with
      | true =>
        refine ih (k + 1) (by omega) (fun j hj => ?_)
        by_cases y : j = k
        · subst y; exact e
        · exact hall j (by omega)
      | false =>
        refine no2 ?_ _
        unfold canW isWB
        rw [allB_no (p := fun k => isLB (T k)) (i := k) (by omega) e, Bool.and_false, Bool.false_and, Bool.false_and]
  refine call_in (Nat.le_of_ble_eq_true rfl) rfl rfl (r_153_0 hn ?_)
  have e0 : f_X9_in (I 59 6) 1 8 = b2 (decide (1 ≤ t) && decide (t ≤ 8)) := by
    rw [f9_in, hR.tn]
    congr 1
    unfold wi
    congr 1
    · exact decide_eq_decide.mpr (oN_le (a := 1) (by decide) (by omega))
    · exact decide_eq_decide.mpr (oN_le (b := 8) (by omega) (by decide))
  rw [e0, hw.n]
  refine b2c (fun e => no2 ?_ 0) (fun e => if_c (fun e8 => no2 ?_ 0) (fun e8 => ?_))
  · unfold canW isWB
    rw [e, Bool.false_and, Bool.false_and, Bool.false_and]
  · have : ¬ w.1 < 8 := by
      have := (oN_le (a := 8) (by decide) (by omega)).mp e8
      omega
    unfold canW
    rw [decide_eq_false this, Bool.and_false, Bool.false_and]
  · rw [Bool.and_eq_true] at e
    have : w.1 < 8 := by
      have : ¬ 8 ≤ w.1 := fun z => e8 (le_y (a := 8) z (by omega))
      omega
    exact lp (decide_eq_true_iff.mp e.2) (decide_eq_true_iff.mp e.1) this t 0 (Nat.zero_add _) (fun j h => absurd h (Nat.not_lt_zero j))
/-- a state whose words alone are changed -/
theorem RfS.words {I' : HI} {w' : Wds} (hR : RfS I W H C w hs t T) (hf : ∀ a k, (a = 61 ∨ a = 63 ∨ (a = 60 ∧ k < 51) ∨ (a = 59 ∧ (k = 3 ∨ k = 6))) → I' a k = I a k) (hw : Ws9 I' w') : RfS I' W H C w' hs t T := by
  have h49 := hR.now.n
  refine RfS.mk (RowR.mk ?_ ?_ hR.row.ws hR.row.hs (fun c hc => ?_) (by rw [Nat.zero_add]; exact hw.n) hw.n8 (fun i hi => by rw [Nat.zero_add]; exact hw.ln i hi) hw.l8 (fun i hi k hk => by rw [Nat.zero_add]; exact hw.lt i hi k hk)) ?_ hR.s4 (fun j v hv => ?_) ?_ hR.t60 (fun k hk => ?_)
  · rw [hf 60 0 (by omega)]; exact hR.row.w
  · rw [hf 60 _ (by omega)]; exact hR.row.h
  · have hc : c < W * H := hc
    rw [hf 60 _ (by omega)]; exact hR.row.cl c hc
  · rw [hf 59 3 (by omega)]; exact hR.sv
  · rw [show I' 61 = I 61 from funext fun k => hf 61 k (by omega)]; exact hR.ps j v hv
  · rw [hf 59 6 (by omega)]; exact hR.tn
  · rw [hf 63 k (by omega)]; exact hR.ta k hk
theorem canW_true (h : canW w t T = true) : 1 ≤ t ∧ t ≤ 8 ∧ w.1 < 8 := by
  unfold canW isWB at h
  simp only [Bool.and_eq_true, decide_eq_true_eq] at h
  exact ⟨h.1.1.1.1, h.1.1.1.2, h.1.2⟩
theorem sr_addWord (hn : 74 ≤ nn) (hR : RfS I W H C w hs t T) (h1 : canW w t T = false → ∀ I', RQ I J I' J → I' 59 4 = 1 → K (.inl (some (.int 0))) (hp fz nn (lay Ln) I' J))
    (h2 : canW w t T = true → ∀ I', RF I J I' J → RfS I' W H C (addW w t T) ((((W, H, C), w) :: hs).take 4) t T → I' 59 4 = 0 → K (.inl (some (.int (Int32.ofNat w.1)))) (hp fz nn (lay Ln) I' J)) :
    cal (d + 3) 154 [.ref 59] (hp fz nn (lay Ln) I J) K := by
  have ht := hR.t60
  refine call_in (Nat.le_of_ble_eq_true rfl) rfl rfl (r_154_0 (d := d + 1) hn (sp_canAdd (d := d) hn hR (kc_v rfl rfl (r_154_5 (d := d + 1) hn ?_))))
  refine b2c (fun e => h1 e _ (rq4 1) (at4 1)) (fun e => ?_)
  replace h2 := h2 e
  obtain ⟨t1, t8, w8⟩ := canW_true e
  refine sp_saves (d := d + 1) hn (hR.r4 0) (fun I1 f1 r1 => kc_0 rfl rfl (r_154_25 (d := d + 1) hn ?_))
  have hw := r1.ws
  rw [hw.n, m9, a52, oN_clamp (by omega), r1.tn]
  refine ⟨oN_vin (by omega) (by decide), ?_⟩
  have lp : ∀ m k, k + m = t → ∀ I2, (∀ a q, ¬ (a = 60 ∧ 52 + 9 * w.1 ≤ q ∧ q < 61 + 9 * w.1) → I2 a q = I1 a q) → I2 60 (52 + 9 * w.1) = Int32.ofNat t → (∀ j, j < k → I2 60 (53 + 9 * w.1 + j) = T j - 97) → EX (cal (d + 1 + 1)) 154 K 51 [some (.ref 59), some (.int (Int32.ofNat (52 + 9 * w.1))), some (.int (Int32.ofNat k))] [] (0, 0) (hp fz nn (lay Ln) I2 J) := by
    intro m
    induction m with
    | zero =>
      intro k hk I2 f2 l2 c2
      obtain rfl : k = t := hk
      refine r_154_51 (d := d + 1) hn (if_y (by rw [f2 59 6 (by omega), r1.tn]; exact Int32.le_refl _) ?_)
      have e5 : I2 60 51 = Int32.ofNat w.1 := by rw [f2 60 51 (by omega)]; exact hw.n
      have e6 : Int32.ofNat (w.1 + 1) - 1 = Int32.ofNat w.1 := oN_sub (b := 1) (by omega)
      rw [e5, oN_succ, e6]
      refine h2 _ ⟨fun a ha => ?_, fun _ _ => rfl⟩ (r1.words (fun a q hq => ?_) (Ws9.mk ?_ ?_ (fun i hi => ?_) (fun i hi => ?_) (fun i hi j hj => ?_))) ?_
      · funext q
        rw [w2_at, if_neg (by omega), f2 a q (by omega), f1 a q (by omega), w2_at, if_neg (by omega)]
      · rw [w2_at, if_neg (by omega)]; exact f2 a q (by omega)
      · rw [w2_at, if_pos ⟨rfl, rfl⟩]; rfl
      · show w.1 + 1 ≤ 8; omega
      · have hi : i < w.1 + 1 := hi
        rw [w2_at, if_neg (by omega)]
        show _ = Int32.ofNat (if i = w.1 then k else w.2.1 i)
        by_cases y : i = w.1
        · subst y; rw [if_pos rfl]; exact l2
        · rw [if_neg y, f2 60 _ (by omega)]; exact hw.ln i (by omega)
      · have hi : i < w.1 + 1 := hi
        show 1 ≤ (if i = w.1 then k else w.2.1 i) ∧ (if i = w.1 then k else w.2.1 i) ≤ 8
        by_cases y : i = w.1
        · rw [if_pos y]; exact ⟨t1, t8⟩
        · rw [if_neg y]; exact hw.l8 i (by omega)
      · have hi : i < w.1 + 1 := hi
        have hj : j < (if i = w.1 then k else w.2.1 i) := hj
        rw [w2_at, if_neg (by omega)]
        show _ = (if i = w.1 then T j else w.2.2 i j) - 97
        by_cases y : i = w.1
        · subst y; rw [if_pos rfl] at hj ⊢; exact c2 j hj
        · rw [if_neg y] at hj ⊢
          have := hw.l8 i (by omega)
          rw [f2 60 _ (by omega)]; exact hw.lt i (by omega) j hj
      · rw [w2_ne _ _ (by decide), f2 59 4 (by omega), f1 59 4 (by omega)]; exact at4 0
    | succ m ih =>
      intro k hk I2 f2 l2 c2
      refine r_154_51 (d := d + 1) hn (if_n (by rw [f2 59 6 (by omega), r1.tn]; exact le_n (by omega) (by omega)) ?_)
      have e1 : Int32.ofNat (52 + 9 * w.1) + 1 + Int32.ofNat k = Int32.ofNat (53 + 9 * w.1 + k) := by
        rw [oN_succ, oN_add]; congr 1; omega
      rw [e1, oN_clamp (by omega), oN_clamp (by omega), f2 63 k (by omega), r1.ta k (by omega), oN_succ]
      refine ⟨oN_vin (by omega) (by decide), oN_vin (by omega) (by decide), ih (k + 1) (by omega) _ (fun a q hq => ?_) ?_ (fun j hj => ?_)⟩
      · rw [w2_at, if_neg (by omega)]; exact f2 a q hq
      · rw [w2_at, if_neg (by omega)]; exact l2
      · rw [w2_at]
        by_cases y : j = k
        · subst y; rw [if_pos ⟨rfl, rfl⟩]
        · rw [if_neg (by omega)]; exact c2 j (by omega)
  exact lp t 0 (Nat.zero_add _) _ (fun a q hq => by rw [w2_at, if_neg (by omega)]) (by rw [w2_at, if_pos ⟨rfl, rfl⟩]) (fun j h => absurd h (Nat.not_lt_zero j))
theorem sr_removeWord (hn : 74 ≤ nn) {p : Int32} (hR : RfS I W H C w hs t T) (h1 : inN p w.1 = false → ∀ I', RQ I J I' J → I' 59 4 = 1 → K (.inl (some (.int 0))) (hp fz nn (lay Ln) I' J))
    (h2 : inN p w.1 = true → ∀ I', RF I J I' J → RfS I' W H C (rmW w p.toNatClampNeg) ((((W, H, C), w) :: hs).take 4) t T → I' 59 4 = 0 → K (.inl (some (.int (Int32.ofNat (w.1 - 1))))) (hp fz nn (lay Ln) I' J)) :
    cal (d + 3) 156 [.ref 59, .int p] (hp fz nn (lay Ln) I J) K := by
  have hn8 := hR.ws.n8
  refine call_in (Nat.le_of_ble_eq_true rfl) rfl rfl (r_156_0 hn ?_)
  rw [f9_in, hR.ws.n, wi_in (by omega)]
  refine b2c (fun e => h1 e _ (rq4 1) (at4 1)) (fun e => ?_)
  replace h2 := h2 e
  obtain ⟨k1, k2⟩ := inN_nat (by omega) e
  generalize p.toNatClampNeg = x at *
  subst k1
  refine sp_saves (d := d + 1) hn (hR.r4 0) (fun I1 f1 r1 => kc_0 rfl rfl (r_156_26 hn ?_))
  have hw := r1.ws
  have e1 : Int32.ofNat w.1 - 1 = Int32.ofNat (w.1 - 1) := oN_sub (b := 1) (by omega)
  rw [hw.n, m9, a52, e1]
  have new : ∀ i, (if i < x then w.2.1 i else w.2.1 (i + 1)) = (rmW w x).2.1 i := fun _ => rfl
  have lp : ∀ m k, k + m = 52 + 9 * (w.1 - 1) → 52 + 9 * x ≤ k → ∀ I2, (∀ a q, ¬ (a = 60 ∧ 51 ≤ q) → I2 a q = I1 a q) → I2 60 51 = Int32.ofNat (w.1 - 1) → (∀ q, 52 + 9 * x ≤ q → q < k → I2 60 q = I1 60 (q + 9)) → (∀ q, 52 ≤ q → (q < 52 + 9 * x ∨ k ≤ q) → I2 60 q = I1 60 q) → EX (cal (d + 2)) 156 K 45 [some (.ref 59), none, some (.int (Int32.ofNat k))] [] (0, 0) (hp fz nn (lay Ln) I2 J) := by
    intro m
    induction m with
    | zero =>
      intro k hk hx I2 f2 n2 c2 d2
      obtain rfl : k = 52 + 9 * (w.1 - 1) := hk
      refine r_156_45 hn (if_y (by rw [n2, m9, a52]; exact Int32.le_refl _) ?_)
      rw [n2]
      refine h2 _ ⟨fun a ha => ?_, fun _ _ => rfl⟩ (r1.words (fun a q hq => f2 a q (by omega)) (Ws9.mk n2 ?_ (fun i hi => ?_) (fun i hi => ?_) (fun i hi j hj => ?_))) ?_
      · funext q
        rw [f2 a q (by omega), f1 a q (by omega), w2_at, if_neg (by omega)]
      · show w.1 - 1 ≤ 8; omega
      · have hi : i < w.1 - 1 := hi
        show _ = Int32.ofNat (if i < x then w.2.1 i else w.2.1 (i + 1))
        by_cases y : i < x
        · rw [if_pos y, d2 _ (by omega) (by omega)]; exact hw.ln i (by omega)
        · rw [if_neg y, c2 _ (by omega) (by omega), show 52 + 9 * i + 9 = 52 + 9 * (i + 1) by omega]; exact hw.ln (i + 1) (by omega)
      · have hi : i < w.1 - 1 := hi
        show 1 ≤ (if i < x then w.2.1 i else w.2.1 (i + 1)) ∧ (if i < x then w.2.1 i else w.2.1 (i + 1)) ≤ 8
        by_cases y : i < x
        · rw [if_pos y]; exact hw.l8 i (by omega)
        · rw [if_neg y]; exact hw.l8 (i + 1) (by omega)
      · have hi : i < w.1 - 1 := hi
        have hj : j < (if i < x then w.2.1 i else w.2.1 (i + 1)) := hj
        show _ = (if i < x then w.2.2 i j else w.2.2 (i + 1) j) - 97
        by_cases y : i < x
        · rw [if_pos y] at hj ⊢
          have := hw.l8 i (by omega)
          rw [d2 _ (by omega) (by omega)]; exact hw.lt i (by omega) j hj
        · rw [if_neg y] at hj ⊢
          have := hw.l8 (i + 1) (by omega)
          rw [c2 _ (by omega) (by omega), show 53 + 9 * i + j + 9 = 53 + 9 * (i + 1) + j by omega]; exact hw.lt (i + 1) (by omega) j hj
      · rw [f2 59 4 (by omega), f1 59 4 (by omega)]; exact at4 0
    | succ m ih =>
      intro k hk hx I2 f2 n2 c2 d2
      refine r_156_45 hn (if_n (by rw [n2, m9, a52]; exact le_n (by omega) (by omega)) ?_)
      have ek : Int32.ofNat k + 9 = Int32.ofNat (k + 9) := oN_add k 9
      rw [ek, oN_clamp (by omega), oN_clamp (by omega), oN_succ]
      refine ⟨oN_vin (by omega) (by decide), oN_vin (by omega) (by decide), ih (k + 1) (by omega) (by omega) _ (fun a q hq => ?_) ?_ (fun q h3 h4 => ?_) (fun q h3 h4 => ?_)⟩
      · rw [w2_at, if_neg (by omega)]; exact f2 a q hq
      · rw [w2_at, if_neg (by omega)]; exact n2
      · rw [w2_at]
        by_cases y : q = k
        · subst y; rw [if_pos ⟨rfl, rfl⟩]; exact d2 _ (by omega) (by omega)
        · rw [if_neg (by omega)]; exact c2 q h3 (by omega)
      · rw [w2_at, if_neg (by omega)]; exact d2 q h3 (by omega)
  exact lp (52 + 9 * (w.1 - 1) - (52 + 9 * x)) (52 + 9 * x) (by omega) (Nat.le_refl _) _ (fun a q hq => by rw [w2_at, if_neg (by omega)]) (by rw [w2_at, if_pos ⟨rfl, rfl⟩]) (fun q h3 h4 => by omega) (fun q h3 h4 => by rw [w2_at, if_neg (by omega)])
theorem sr_append (hn : 74 ≤ nn) {p : Int32} (hR : RfS I W H C w hs t T) (h1 : wi p 0 127 = false → ∀ I', RQ I J I' J → I' 59 4 = 1 → K (.inl (some (.int 0))) (hp fz nn (lay Ln) I' J)) (h1' : wi p 0 127 = true → t = 60 → ∀ I', RQ I J I' J → I' 59 4 = 2 → K (.inl (some (.int 0))) (hp fz nn (lay Ln) I' J))
    (h2 : wi p 0 127 = true → t < 60 → ∀ I', RF I J I' J → RfS I' W H C w hs (t + 1) (addT t T p) → I' 59 4 = 0 → K (.inl (some (.int (Int32.ofNat (t + 1))))) (hp fz nn (lay Ln) I' J)) : cal (d + 2) 193 [.ref 59, .int p] (hp fz nn (lay Ln) I J) K := by
  have ht := hR.t60
  refine call_in (Nat.le_of_ble_eq_true rfl) rfl rfl (r_193_0 hn ?_)
  rw [f9_in, hR.tn]
  refine b2c (fun e => h1 e _ (rq4 1) (at4 1)) (fun e => if_c (fun e2 => h1' e ((oN_eq (b := 60) (by omega) (by decide)).mp e2) _ (rq4 2) (at4 2)) (fun e2 => ?_))
  have h60 : t < 60 := by
    have : t ≠ 60 := fun z => e2 (by rw [z]; rfl)
    omega
  replace h2 := h2 e h60
  have e6 : (w2 I 59 4 0) 59 6 = Int32.ofNat t := by rw [w2_at, if_neg (by decide)]; exact hR.tn
  rw [e6, oN_clamp (by omega), oN_succ]
  refine ⟨oN_vin h60 (by decide), h2 _ ⟨fun a ha => ?_, fun _ _ => rfl⟩ (RfS.mk ?_ ?_ hR.s4 (fun j v hv => ?_) ?_ (by omega) (fun k hk => ?_)) ?_⟩
  · funext k
    rw [w2_at, if_neg (by omega), w2_at, if_neg (by omega), w2_at, if_neg (by omega)]
  · rw [w2_other _ _ _ (by decide), w2_other _ _ _ (by decide), w2_other _ _ _ (by decide)]; exact hR.row
  · rw [w2_at, if_neg (by decide), w2_ne _ _ (by decide), w2_at, if_neg (by decide)]; exact hR.sv
  · rw [w2_other _ _ _ (by decide), w2_other _ _ _ (by decide), w2_other _ _ _ (by decide)]; exact hR.ps j v hv
  · rw [w2_at, if_pos ⟨rfl, rfl⟩]
  · rw [w2_ne _ _ (by decide), w2_at]
    show _ = if k = t then p else T k
    by_cases y : k = t
    · rw [if_pos ⟨rfl, y⟩, if_pos y]
    · rw [if_neg (fun z => y z.2), if_neg y, w2_ne _ _ (by decide)]; exact hR.ta k (by omega)
  · rw [w2_at, if_neg (by decide), w2_ne _ _ (by decide)]; exact at4 0
theorem sr_clearText (hn : 74 ≤ nn) (hR : RfS I W H C w hs t T) (h2 : ∀ I', RF I J I' J → RfS I' W H C w hs 0 T → K (.inl (some (.int (Int32.ofNat t)))) (hp fz nn (lay Ln) I' J)) : cal (d + 1) 194 [.ref 59] (hp fz nn (lay Ln) I J) K := by
  refine sp_X9_clearText hn ?_
  rw [hR.tn]
  refine h2 _ ⟨fun a ha => ?_, fun _ _ => rfl⟩ (RfS.mk ?_ ?_ hR.s4 (fun j v hv => ?_) ?_ (Nat.zero_le _) (fun k hk => absurd hk (Nat.not_lt_zero k)))
  · funext k
    rw [w2_at, if_neg (by omega), w2_at, if_neg (by omega)]
  · rw [w2_other _ _ _ (by decide), w2_other _ _ _ (by decide)]; exact hR.row
  · rw [w2_at, if_neg (by decide), w2_at, if_neg (by decide)]; exact hR.sv
  · rw [w2_other _ _ _ (by decide), w2_other _ _ _ (by decide)]; exact hR.ps j v hv
  · rw [w2_at, if_pos ⟨rfl, rfl⟩]; rfl
end LS9
