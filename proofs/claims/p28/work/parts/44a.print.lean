/-! ===== the law's print ===== -/
section PRT
variable {d k nn Ln fz : Nat} {Q : Post} {pc : Nat} {L : Lc} {r : List Value} {u : Nat × Nat} {I : HI} {J : HJ} {W H : Nat} {C : Cel} {w : Wds} {hs : List Sav} {t : Nat} {T : Nat → Int32}
theorem CSt.dim (hc : CSt I J W H C w hs t T) : (2 ≤ W ∧ W ≤ 7) ∧ 2 ≤ H ∧ H ≤ 7 := hc.st.1.2.2
theorem CSt.w49 (hc : CSt I J W H C w hs t T) : W * H ≤ 49 := by
  have := hc.dim
  have : W * H ≤ 7 * 7 := Nat.mul_le_mul (by omega) (by omega)
  omega
theorem pr_val (hn : 59 ≤ nn) (hc : CSt I J W H C w hs t T) (h : EX (cal (d + 40)) 149 Q 33 [some (.ref 1), some (.long (itN (prN W H C w) 10 191)), none, some (.int 0)] [] (0, 0) (hp (fz + 2) nn (lay Ln) I J)) : ∀ n k, k + n = 10 →
    EX (cal (d + 40)) 149 Q 6 [some (.ref 1), some (.long (itN (prN W H C w) k 191)), none, some (.int (Int32.ofNat k))] [] (0, 0) (hp (fz + 2) nn (lay Ln) I J) := by
  intro n
  induction n with
  | zero =>
    intro k hk
    have : k = 10 := hk
    subst this
    exact q_149_6 hn (if_y (by decide) h)
  | succ n ih =>
    intro k hk
    refine q_149_6 hn (if_n (fun q => ?_) (lk_value hn hc (wi_of (x := 0) (y := 9) (Nat.zero_le _) (by omega) (by decide)) ?_))
    · have := (oN_le (a := 10) (b := k) (by decide) (by omega)).mp q
      omega
    · refine q_149_22 hn ?_
      rw [oN_succ, oN_clamp (by omega)]
      exact ih (k + 1) (by omega)
theorem pr_cel (hn : 59 ≤ nn) (hc : CSt I J W H C w hs t T) {x : Int64} (h : EX (cal (d + 40)) 149 Q 61 [some (.ref 1), some (.long (itN (prC W H C) 49 x)), none, some (.int 0)] [] (0, 0) (hp (fz + 1) nn (lay Ln) I J)) : ∀ n k, k + n = 49 →
    EX (cal (d + 40)) 149 Q 33 [some (.ref 1), some (.long (itN (prC W H C) k x)), none, some (.int (Int32.ofNat k))] [] (0, 0) (hp (fz + n + 1) nn (lay Ln) I J) := by
  intro n
  induction n with
  | zero =>
    intro k hk
    have : k = 49 := hk
    subst this
    exact q_149_33 hn (if_y (by decide) h)
  | succ n ih =>
    intro k hk
    have key : EX (cal (d + 40)) 149 Q 50 [some (.ref 1), some (.long (itN (prC W H C) k x)), none, some (.int (Int32.ofNat k))] [.int (if k < W * H then C k else -5000003), .long (31 * itN (prC W H C) k x)] (0, 0) (hp (fz + n + 1) nn (lay Ln) I J) := by
      refine q_149_50 hn ?_
      rw [oN_succ]
      exact ih (k + 1) (by omega)
    have h49 := hc.w49
    refine q_149_33 hn (if_n (fun q => ?_) (lf_cell (fz := fz + n) hn hc (fun e => ?_) (fun _ e => ?_) (fun e _ => ?_)))
    · have := (oN_le (a := 49) (b := k) (by decide) (by omega)).mp q
      omega
    · by_cases z : k < W * H
      · rw [in_of z (by omega)] at e; cases e
      · rw [if_neg z] at key; exact key
    · exact absurd e (by decide)
    · have z : k < W * H := by
        apply Classical.byContradiction
        intro z
        rw [in_no (by omega) (by omega)] at e; cases e
      rw [if_pos z] at key
      rw [oN_clamp (by omega)]
      exact key
theorem pr_gate (hn : 59 ≤ nn) {x : Int64} : ∀ n k I, k + n = 28 → CSt I J W H C w hs t T → (∀ I', QF I J I' J → EX (cal (d + 40)) 149 Q 100 [some (.ref 1), some (.long (itN (prG W H C w) 28 x)), none, some (.int 0)] [] (0, 0) (hp (fz + 1) nn (lay Ln) I' J)) →
    EX (cal (d + 40)) 149 Q 61 [some (.ref 1), some (.long (itN (prG W H C w) k x)), none, some (.int (Int32.ofNat k))] [] (0, 0) (hp (fz + 2 * n + 1) nn (lay Ln) I J) := by
  intro n
  induction n with
  | zero =>
    intro k I hk hc h
    have : k = 28 := hk
    subst this
    exact q_149_61 hn (if_y (by decide) (h I (QF.rf I J)))
  | succ n ih =>
    intro k I hk hc h
    have hd := hc.dim
    have key : ∀ I', QF I J I' J → EX (cal (d + 40)) 149 Q 89 [some (.ref 1), some (.long (itN (prG W H C w) k x)), none, some (.int (Int32.ofNat k))] [.int (if k < 2 * (W + H) then score w (rdg W H C k) else -5000003), .long (31 * (31 * itN (prG W H C w) k x + (if k < 2 * (W + H) then bE W H C k else -5000003).toInt64))] (0, 0) (hp (fz + 2 * n + 1) nn (lay Ln) I' J) := by
      intro I' q
      refine q_149_89 hn ?_
      rw [oN_succ]
      exact ih (k + 1) I' (by omega) (hc.q q) fun I2 q2 => h I2 (q.tr q2)
    have key2 : EX (cal (d + 40)) 149 Q 81 [some (.ref 1), some (.long (itN (prG W H C w) k x)), none, some (.int (Int32.ofNat k))] [.int (if k < 2 * (W + H) then bE W H C k else -5000003), .long (31 * itN (prG W H C w) k x), .long 31] (0, 0) (hp (fz + 2 * n + 2) nn (lay Ln) I J) := by
      refine q_149_81 hn (lf_wordsOf (fz := fz + 2 * n) hn hc (fun e => ?_) (fun e I' q => ?_))
      · by_cases z : k < 2 * (W + H)
        · rw [in_of z (by omega)] at e; cases e
        · have key := key I (QF.rf I J)
          rw [if_neg z] at key; exact key
      · have z : k < 2 * (W + H) := by
          apply Classical.byContradiction
          intro z
          rw [in_no (by omega) (by omega)] at e; cases e
        have key := key I' q
        rw [if_pos z] at key
        rw [oN_clamp (by omega)]
        exact key
    rw [show fz + 2 * (n + 1) + 1 = fz + 2 * n + 1 + 2 by omega]
    refine q_149_61 hn (if_n (fun q => ?_) (lf_band (fz := fz + 2 * n + 1) hn hc (fun e => ?_) (fun _ e => ?_) (fun e _ => ?_)))
    · have := (oN_le (a := 28) (b := k) (by decide) (by omega)).mp q
      omega
    · by_cases z : k < 2 * (W + H)
      · rw [in_of z (by omega)] at e; cases e
      · rw [if_neg z] at key2; exact key2
    · exact absurd e (by decide)
    · have z : k < 2 * (W + H) := by
        apply Classical.byContradiction
        intro z
        rw [in_no (by omega) (by omega)] at e; cases e
      rw [if_pos z] at key2
      rw [oN_clamp (by omega)]
      exact key2
theorem pr_word (hn : 59 ≤ nn) (hc : CSt I J W H C w hs t T) {x : Int64} (h : Q (.inl (some (.long (itN (prD w) 64 x)))) (hp (fz + 1) nn (lay Ln) I J)) : ∀ n k, k + n = 64 →
    EX (cal (d + 40)) 149 Q 100 [some (.ref 1), some (.long (itN (prD w) k x)), none, some (.int (Int32.ofNat k))] [] (0, 0) (hp (fz + n + 1) nn (lay Ln) I J) := by
  intro n
  induction n with
  | zero =>
    intro k hk
    have : k = 64 := hk
    subst this
    exact q_149_100 hn (if_y (by decide) h)
  | succ n ih =>
    intro k hk
    have h8 := hc.wd.2.1
    have key : EX (cal (d + 40)) 149 Q 123 [some (.ref 1), some (.long (itN (prD w) k x)), none, some (.int (Int32.ofNat k))] [.int (if k / 8 < w.1 then wRx w (Int32.ofNat (k / 8)) (Int32.ofNat (k % 8)) else -5000003), .long (31 * itN (prD w) k x)] (0, 0) (hp (fz + n + 1) nn (lay Ln) I J) := by
      refine q_149_123 hn ?_
      rw [oN_succ]
      exact ih (k + 1) (by omega)
    have e8 : Int32.ofNat k / 8 = Int32.ofNat (k / 8) ∧ Int32.ofNat k - Int32.ofNat k / 8 * 8 = Int32.ofNat (k % 8) := by
      have : ∀ k, k < 64 → Int32.ofNat k / 8 = Int32.ofNat (k / 8) ∧ Int32.ofNat k - Int32.ofNat k / 8 * 8 = Int32.ofNat (k % 8) := by decide
      exact this k (by omega)
    refine q_149_100 hn (if_n (fun q => ?_) ?_)
    · have := (oN_le (a := 64) (b := k) (by decide) (by omega)).mp q
      omega
    · rw [e8.2, e8.1]
      refine lf_word (fz := fz + n) hn hc (fun e => ?_) (fun e => ?_)
      · by_cases z : k / 8 < w.1
        · rw [in_of z (by omega), nn_of (by omega)] at e; cases e
        · rw [if_neg z] at key; exact key
      · have z : k / 8 < w.1 := by
          apply Classical.byContradiction
          intro z
          rw [in_no (by omega) (by omega), Bool.false_and] at e; cases e
        rw [if_pos z] at key
        exact key
theorem itN_z (f : Nat → Int64 → Int64) (x : Int64) : itN f 0 x = x := rfl
theorem pr_all (hn : 59 ≤ nn) (hc : CSt I J W H C w hs t T) (h : ∀ I', QF I J I' J → Q (.inl (some (.long (prV W H C w)))) (hp (fz + 1) nn (lay Ln) I' J)) :
    EX (cal (d + 40)) 149 Q 0 [some (.ref 1), none, none, none] [] (0, 0) (hp (fz + 170) nn (lay Ln) I J) := by
  have g1 := pr_gate (fz := fz + 64) (d := d) (Q := Q) (Ln := Ln) (x := itN (prC W H C) 49 (itN (prN W H C w) 10 191)) hn 28 0 I (by decide) hc fun I' q => by
    have w1 := pr_word (d := d) (Ln := Ln) (fz := fz) hn (hc.q q) (h I' q) 64 0 (by decide)
    rw [itN_z] at w1
    exact w1
  rw [show fz + 64 + 2 * 28 + 1 = fz + 120 + 1 by omega, itN_z] at g1
  have c1 := pr_cel (d := d) (fz := fz + 120) hn hc g1 49 0 (by decide)
  rw [show fz + 120 + 49 + 1 = fz + 168 + 2 by omega, itN_z] at c1
  have v1 := pr_val (d := d) (fz := fz + 168) hn hc c1 10 0 (by decide)
  rw [show fz + 168 + 2 = fz + 170 by omega, itN_z] at v1
  exact q_149_0 hn v1
theorem lm_print (hn : 59 ≤ nn) (hc : CSt I J W H C w hs t T) (h : ∀ I', QF I J I' J → EX (cal (d + 41)) k Q pc L (.long (prV W H C w) :: r) u (hp (fz + 1) nn (lay Ln) I' J)) :
    CA (cal (d + 41)) 149 [.ref 1] (hp (fz + 170) nn (lay Ln) I J) (fun w => KW (d + 41) k Q pc L r u w 149 (hp (fz + 170) nn (lay Ln) I J)) :=
  ⟨169, Or.inr (show 169 < fz + 170 by omega), call_in (d := d + 40) (Nat.le_of_ble_eq_true rfl) rfl rfl (pr_all (d := d) hn hc fun I' q => kw_va rfl rfl (by omega) (by omega) (h I' q))⟩
end PRT
