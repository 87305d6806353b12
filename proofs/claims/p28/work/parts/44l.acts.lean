/-! ===== acts ===== -/
theorem oN_div {a b : Nat} (ha : a < 2 ^ 31) (hb : b < 2 ^ 31) : Int32.ofNat a / Int32.ofNat b = Int32.ofNat (a / b) := by
  rw [← Int32.toInt_inj, Int32.toInt_div, oN_toInt ha, oN_toInt hb, oN_toInt (Nat.lt_of_le_of_lt (Nat.div_le_self a b) ha)]
  rw [show Int.tdiv (a : Int) (b : Int) = ((a / b : Nat) : Int) from rfl]
  have h := Nat.div_le_self a b
  generalize a / b = c at *
  rw [Int.bmod_eq_of_le] <;> omega
theorem oN_mod {a b : Nat} (ha : a < 2 ^ 31) (hb : b < 2 ^ 31) : Int32.ofNat a - Int32.ofNat a / Int32.ofNat b * Int32.ofNat b = Int32.ofNat (a % b) := by
  rw [oN_div ha hb, oN_mul, oN_sub (by rw [Nat.mul_comm]; exact Nat.mul_div_le a b)]
  congr 1
  have := Nat.div_add_mod a b
  rw [Nat.mul_comm b] at this
  omega
theorem oN_ne0 {b : Nat} (hb : b < 2 ^ 31) (h : 0 < b) : ¬ Int32.ofNat b = 0 := fun e => by
  have := (oN_eq (b := 0) hb (by decide)).mp e
  omega
theorem and_nn (v : Int32) : ∃ a, a < 2 ^ 31 ∧ v &&& 2147483647 = Int32.ofNat a := by
  have h0 : (0 : Int32) ≤ v &&& 2147483647 := by
    rw [Int32.le_iff_toInt_le]
    show (0 : Int) ≤ (v &&& 2147483647).toBitVec.toInt
    rw [Int32.toBitVec_and, BitVec.toInt_eq_toNat_of_msb]
    · exact Int.natCast_nonneg _
    · rw [BitVec.msb_and]
      rw [show (2147483647 : Int32).toBitVec.msb = false by decide, Bool.and_false]
  have := nn_nat h0
  exact ⟨_, this.2, this.1⟩
theorem lowV_val (v : Int32) {k : Nat} (h0 : 0 < k) (hk : k < 2 ^ 31) : ∃ a, a < k ∧ lowV v (Int32.ofNat k) = Int32.ofNat a := by
  obtain ⟨a, ha, e⟩ := and_nn v
  refine ⟨a % k, Nat.mod_lt _ h0, ?_⟩
  unfold lowV
  rw [e, oN_mod ha hk]
/-- what the law keeps of a state: no cell below 0, letters in the words -/
def GoodS (v : Sav) : Prop := (∀ c, c < v.1.1 * v.1.2.1 → 0 ≤ v.1.2.2 c) ∧ GoodW v.2
theorem tcB_nn {v : Int32} (h : 0 ≤ v) : 0 ≤ tcB v := by
  unfold tcB
  split
  · decide
  · split
    · decide
    · exact h
theorem isOB_nn {v : Int32} (h : isOB v = true) : 0 ≤ v := by
  unfold isOB isRB isLB isSB isCB at h
  simp only [Bool.or_eq_true, Bool.and_eq_true, decide_eq_true_eq] at h
  rcases h with ((((h | h) | h | h) | h) | h) | h
  · exact Int32.le_trans (by decide) h.1
  · exact Int32.le_trans (by decide) h.1
  all_goals rw [h]; decide
theorem GoodW.add {w : Wds} {t : Nat} {T : Nat → Int32} (h : GoodW w) (hc : canW w t T = true) : GoodW (addW w t T) := by
  have hT : ∀ k, k < t → isLB (T k) = true := by
    unfold canW isWB at hc
    have := (Bool.and_eq_true_iff.mp (Bool.and_eq_true_iff.mp hc).1).1
    exact allB_iff.mp (Bool.and_eq_true_iff.mp this).2
  intro i hi k hk
  by_cases e : i = w.1
  · have hk : k < (if i = w.1 then t else w.2.1 i) := hk
    rw [if_pos e] at hk
    show isLB (if i = w.1 then T k else w.2.2 i k) = true
    rw [if_pos e]
    exact hT k hk
  · have hk : k < (if i = w.1 then t else w.2.1 i) := hk
    rw [if_neg e] at hk
    show isLB (if i = w.1 then T k else w.2.2 i k) = true
    rw [if_neg e]
    have hi : i < w.1 + 1 := hi
    exact h i (by omega) k hk
theorem GoodW.rm {w : Wds} {q : Nat} (h : GoodW w) (hq : q < w.1) : GoodW (rmW w q) := by
  intro i hi k hk
  have hi : i < w.1 - 1 := hi
  by_cases e : i < q
  · have hk : k < (if i < q then w.2.1 i else w.2.1 (i + 1)) := hk
    rw [if_pos e] at hk
    show isLB (if i < q then w.2.2 i k else w.2.2 (i + 1) k) = true
    rw [if_pos e]
    exact h i (by omega) k hk
  · have hk : k < (if i < q then w.2.1 i else w.2.1 (i + 1)) := hk
    rw [if_neg e] at hk
    show isLB (if i < q then w.2.2 i k else w.2.2 (i + 1) k) = true
    rw [if_neg e]
    exact h (i + 1) (by omega) k hk
section ACT
variable {d k nn Ln fz : Nat} {Q : Post} {pc : Nat} {L : Lc} {r : List Value} {u : Nat × Nat} {I : HI} {J : HJ} {W H : Nat} {C : Cel} {w : Wds} {hs : List Sav} {t : Nat} {T : Nat → Int32}
theorem ac_txt (hn : 59 ≤ nn) {x2 : Int32} {c : Nat} (hc3 : c ≤ 3) : ∀ n k I T, k + n = c → CSt I J W H C w hs k T →
    (∀ m I' t' T', fz + 2 ≤ m → m ≤ fz + 3 → ClF I J I' J → CSt I' J W H C w hs t' T' → EX (cal (d + 41)) 158 Q 138 [some (.ref 1), none, none, none, none, none, none] [] (0, 0) (hp m nn (lay Ln) I' J)) → ∀ x4 : Int32,
    EX (cal (d + 41)) 158 Q 101 [some (.ref 1), none, some (.int x2), none, some (.int x4), some (.int (Int32.ofNat c)), some (.int (Int32.ofNat k))] [] (0, 0) (hp (fz + 3) nn (lay Ln) I J) := by
  intro n
  induction n with
  | zero =>
    intro k I T hk hc h x4
    have hk : k = c := hk
    subst hk
    exact q_158_101 (d := d + 40) hn (if_y (Int32.le_refl _) (h _ I _ T (by omega) (by omega) (ClF.rf I J) hc))
  | succ n ih =>
    intro k I T hk hc h x4
    refine q_158_101 (d := d + 40) hn (if_c (fun _ => h _ I _ T (by omega) (by omega) (ClF.rf I J) hc) (fun _ => if_c (fun _ => h _ I _ T (by omega) (by omega) (ClF.rf I J) hc) (fun _ => ?_)))
    generalize 97 + (((x2 / 3) >>> ((2 * Int32.ofNat k) &&& 31)) - ((x2 / 3) >>> ((2 * Int32.ofNat k) &&& 31)) / 3 * 3) = p
    cases hp : wi p 0 127 with
    | true =>
      refine lk_append (d := d + 1) (fz := fz + 1) hn hc hp (by omega) fun I1 f1 c1 => q_158_130 (d := d + 40) hn ?_
      rw [oN_succ]
      exact ih (k + 1) I1 _ (by omega) c1 (fun m I' t' T' a b f c => h m I' t' T' a b (f1.tr f) c) _
    | false =>
      refine lf_append (d := d + 1) (fz := fz + 1) hn hc hp (q_158_130 (d := d + 40) hn ?_)
      refine q_158_101 (d := d + 40) hn (if_c (fun _ => h _ I _ T (by omega) (by omega) (ClF.rf I J) hc) (fun _ => if_y (by decide) (h _ I _ T (by omega) (by omega) (ClF.rf I J) hc)))
theorem ac_all (hn : 59 ≤ nn) (hc : CSt I J W H C w hs t T) (g : GoodS ((W, H, C), w)) {x : Int32} {m : Nat} (hm : m < 2 ^ 31)
    (h1 : ∀ v m' I' J' W' H' C' w' t' T', 0 ≤ v → fz + 1 ≤ m' → m' ≤ fz + 5 → ClF I J I' J' → CSt I' J' W' H' C' w' ((((W, H, C), w) :: hs).take 4) t' T' → GoodS ((W', H', C'), w') → Q (.inl (some (.int v))) (hp m' nn (lay Ln) I' J'))
    (h2 : ∀ v m' I' J' t' T', (v = -5000001 ∨ v = -5000002 ∨ v = -5000003) → fz + 1 ≤ m' → m' ≤ fz + 5 → ClF I J I' J' → CSt I' J' W H C w hs t' T' → Q (.inl (some (.int v))) (hp m' nn (lay Ln) I' J')) :
    EX (cal (d + 41)) 158 Q 0 [some (.ref 1), some (.int x), some (.int (Int32.ofNat m)), none, none, none, none] [] (0, 0) (hp (fz + 5) nn (lay Ln) I J) := by
  have hd := hc.dim
  have h49 := hc.w49
  have hp0 : 0 < W * H := Nat.mul_pos (by omega) (by omega)
  have h8 := hc.wd.2.1
  refine q_158_0 (d := d + 40) hn (lk_value (d := d + 1) (fz := fz + 3) hn hc (by decide) ?_)
  rw [nF_0]
  refine q_158_5 (d := d + 40) hn (lk_value (d := d + 1) (fz := fz + 3) hn hc (by decide) ?_)
  rw [nF_1]
  refine q_158_10 (d := d + 40) hn ?_
  rw [oN_mul]
  have a56 : EX (cal (d + 41)) 158 Q 56 [some (.ref 1), some (.int x), some (.int (Int32.ofNat m)), some (.int (Int32.ofNat (W * H))), none, none, none] [] (0, 0) (hp (fz + 5) nn (lay Ln) I J) := by
    refine q_158_56 (d := d + 40) hn (lf_setSize (d := d + 1) (fz := fz + 3) hn hc (fun _ => q_158_74 (d := d + 40) hn (h2 _ _ I J t T (Or.inl rfl) (by omega) (by omega) (ClF.rf I J) hc)) (fun e I1 J1 f1 c1 => q_158_74 (d := d + 40) hn (h1 _ _ I1 J1 _ _ _ _ _ _ ?_ (by omega) (by omega) f1 c1 ⟨fun _ _ => (show (0 : Int32) ≤ 46 by decide), g.2⟩)))
    have hd1 := c1.dim
    exact Int32.not_lt.mp (oN_nneg (by omega))
  have a75 : EX (cal (d + 41)) 158 Q 75 [some (.ref 1), some (.int x), some (.int (Int32.ofNat m)), some (.int (Int32.ofNat (W * H))), none, none, none] [] (0, 0) (hp (fz + 5) nn (lay Ln) I J) := by
    refine q_158_75 (d := d + 40) hn (lm_corners (d := d + 1) (fz := fz + 3) hn hc fun I1 J1 f1 c1 => q_158_79 (d := d + 40) hn (h1 _ _ I1 J1 _ _ _ _ _ _ ?_ (by omega) (by omega) f1 c1 ⟨fun c hc => tcB_nn (g.1 c hc), g.2⟩))
    have hl := cntB_le (fun c => isCB (tcB (C c))) (W * H)
    exact Int32.not_lt.mp (oN_nneg (by omega))
  have a80 : EX (cal (d + 41)) 158 Q 80 [some (.ref 1), some (.int x), some (.int (Int32.ofNat m)), some (.int (Int32.ofNat (W * H))), none, none, none] [] (0, 0) (hp (fz + 5) nn (lay Ln) I J) := by
    refine q_158_80 (d := d + 40) hn (lm_stone (d := d + 1) (fz := fz + 3) hn hc fun I1 J1 f1 c1 => q_158_84 (d := d + 40) hn (h1 _ _ I1 J1 _ _ _ _ _ _ ?_ (by omega) (by omega) f1 c1 ⟨fun c hc => tcB_nn (g.1 _ ?_), g.2⟩))
    · exact Int32.not_lt.mp (oN_nneg (by omega))
    · show (H - 1 - c % H) * W + c / H < W * H
      have hc' : c < W * H := by rw [Nat.mul_comm]; exact hc
      have e1 : c / H < W := Nat.div_lt_of_lt_mul (by rw [Nat.mul_comm]; exact hc')
      have e2 : (H - 1 - c % H) * W ≤ (H - 1) * W := Nat.mul_le_mul_right W (by omega)
      have e3 : (H - 1) * W + W = W * H := by
        rw [Nat.mul_comm W H]
        have : (H - 1 + 1) * W = H * W := by rw [show H - 1 + 1 = H by omega]
        rw [← this, Nat.add_mul, Nat.one_mul]
      generalize c / H = q at *
      omega
  have a85 : EX (cal (d + 41)) 158 Q 85 [some (.ref 1), some (.int x), some (.int (Int32.ofNat m)), some (.int (Int32.ofNat (W * H))), none, none, none] [] (0, 0) (hp (fz + 5) nn (lay Ln) I J) := by
    refine q_158_85 (d := d + 40) hn (lm_clear (d := d + 1) (fz := fz + 3) hn hc fun I1 f1 c1 => q_158_89 (d := d + 40) hn ?_)
    rw [show Int32.ofNat m - Int32.ofNat m / 3 * 3 = Int32.ofNat (m % 3) from oN_mod (b := 3) hm (by decide), show (1 : Int32) + Int32.ofNat (m % 3) = Int32.ofNat (1 + m % 3) from oN_add 1 _]
    refine ac_txt (d := d) (fz := fz + 2) hn (by omega) (1 + m % 3) 0 I1 T (Nat.zero_add _) c1 (fun m' I2 t2 T2 y1 y2 f2 c2 => ?_) _
    obtain ⟨f, rfl⟩ : ∃ f, m' = f + 2 := ⟨m' - 2, by omega⟩
    refine q_158_138 (d := d + 40) hn (lf_addWord (d := d + 1) (fz := f) hn c2 (fun _ => q_158_142 (d := d + 40) hn (h2 _ _ I2 J t2 T2 (Or.inr (Or.inl rfl)) (by omega) (by omega) (f1.tr f2) c2)) (fun e I3 J3 f3 c3 => q_158_142 (d := d + 40) hn (h1 _ _ I3 J3 _ _ _ _ _ _ ?_ (by omega) (by omega) ((f1.tr f2).tr f3) c3 ⟨g.1, g.2.add e⟩)))
    exact Int32.not_lt.mp (oN_nneg (by omega))
  have a143 : EX (cal (d + 41)) 158 Q 143 [some (.ref 1), some (.int x), some (.int (Int32.ofNat m)), some (.int (Int32.ofNat (W * H))), none, none, none] [] (0, 0) (hp (fz + 5) nn (lay Ln) I J) := by
    refine q_158_143 (d := d + 40) hn (lf_removeWord (d := d + 1) (fz := fz + 3) hn hc (fun _ => q_158_151 (d := d + 40) hn (h2 _ _ I J t T (Or.inr (Or.inr rfl)) (by omega) (by omega) (ClF.rf I J) hc)) (fun e I1 J1 f1 c1 => q_158_151 (d := d + 40) hn (h1 _ _ I1 J1 _ _ _ _ _ _ ?_ (by omega) (by omega) f1 c1 ⟨g.1, g.2.rm (inN_nat (by omega) e).2⟩)))
    exact Int32.not_lt.mp (oN_nneg (by omega))
  have a152 : EX (cal (d + 41)) 158 Q 152 [some (.ref 1), some (.int x), some (.int (Int32.ofNat m)), some (.int (Int32.ofNat (W * H))), none, none, none] [] (0, 0) (hp (fz + 5) nn (lay Ln) I J) := by
    have go : ∀ v : Int32, EX (cal (d + 41)) 158 Q 166 [some (.ref 1), some (.int x), some (.int (Int32.ofNat m)), some (.int (Int32.ofNat (W * H))), none, none, none] [.int v, .int (Int32.ofNat m - Int32.ofNat m / Int32.ofNat (W * H) * Int32.ofNat (W * H)), .ref 1] (0, 0) (hp (fz + 5) nn (lay Ln) I J) := by
      intro v
      refine q_158_166 (d := d + 40) hn (lf_setCell (d := d + 1) (fz := fz + 3) hn hc (fun _ => q_158_169 (d := d + 40) hn (h2 _ _ I J t T (Or.inr (Or.inr rfl)) (by omega) (by omega) (ClF.rf I J) hc)) (fun _ _ => q_158_169 (d := d + 40) hn (h2 _ _ I J t T (Or.inl rfl) (by omega) (by omega) (ClF.rf I J) hc)) (fun e e2 I1 J1 f1 c1 => q_158_169 (d := d + 40) hn ?_))
      have hp := (inN_nat (by omega) e).2
      refine h1 _ _ I1 J1 _ _ _ _ _ _ (g.1 _ hp) (by omega) (by omega) f1 c1 ⟨fun c hc => ?_, g.2⟩
      show 0 ≤ (if c = _ then v else C c)
      split
      · exact isOB_nn e2
      · exact g.1 c hc
    refine q_158_152 (d := d + 40) hn ⟨oN_ne0 (by omega) hp0, ⟨0, Or.inl rfl, call_in (d := d + 40) (Nat.le_of_ble_eq_true rfl) rfl rfl (q_157_0 (d := d + 39) hn ?_)⟩⟩
    have fin : ∀ v : Int32, EX (cal (d + 40)) 157 (KW (d + 41) 158 Q 166 [some (.ref 1), some (.int x), some (.int (Int32.ofNat m)), some (.int (Int32.ofNat (W * H))), none, none, none] [.int (Int32.ofNat m - Int32.ofNat m / Int32.ofNat (W * H) * Int32.ofNat (W * H)), .ref 1] (0, 0) 0 157 (hp (fz + 5) nn (lay Ln) I J)) 90 [none, none] [.int v] (0, 0) (hp (fz + 5) nn (lay Ln) I J) := fun v => q_157_90 (d := d + 39) hn (kc_v rfl rfl (go v))
    exact if_c (fun _ => if_c (fun _ => if_c (fun _ => if_c (fun _ => if_c (fun _ => fin _) (fun _ => if_c (fun _ => fin _) (fun _ => fin _))) (fun _ => fin _)) (fun _ => fin _)) (fun _ => fin _)) (fun _ => fin _)
  obtain ⟨j, hj, ej⟩ := lowV_val x (k := 16) (by decide) (by decide)
  replace ej : lowV x 16 = Int32.ofNat j := ej
  rw [ej]
  refine e_tsw (cx cd_158_18 rfl rfl) ?_
  have tj : (Int32.ofNat j).toInt = j := oN_toInt (by omega)
  rw [tj]
  by_cases z : j ≤ 5
  · rw [if_neg (by omega)]
    have : j = 0 ∨ j = 1 ∨ j = 2 ∨ j = 3 ∨ j = 4 ∨ j = 5 := by omega
    rcases this with rfl | rfl | rfl | rfl | rfl | rfl
    · exact a56
    · exact a75
    · exact a80
    · exact a85
    · exact a85
    · exact a143
  · rw [if_pos (by omega)]
    exact a152
theorem lm_acts (hn : 59 ≤ nn) (hc : CSt I J W H C w hs t T) (g : GoodS ((W, H, C), w)) {x : Int32} {m : Nat} (hm : m < 2 ^ 31)
    (h1 : ∀ v I' J' W' H' C' w' t' T', 0 ≤ v → CSt I' J' W' H' C' w' ((((W, H, C), w) :: hs).take 4) t' T' → GoodS ((W', H', C'), w') → EX (cal (d + 42)) k Q pc L (.int v :: r) u (hp (fz + 1) nn (lay Ln) I' J'))
    (h2 : ∀ v I' J' t' T', (v = -5000001 ∨ v = -5000002 ∨ v = -5000003) → CSt I' J' W H C w hs t' T' → EX (cal (d + 42)) k Q pc L (.int v :: r) u (hp (fz + 1) nn (lay Ln) I' J')) :
    CA (cal (d + 42)) 158 [.ref 1, .int x, .int (Int32.ofNat m)] (hp (fz + 5) nn (lay Ln) I J) (fun w => KW (d + 42) k Q pc L r u w 158 (hp (fz + 5) nn (lay Ln) I J)) :=
  ⟨4, Or.inr (show 4 < fz + 5 by omega), call_in (d := d + 41) (Nat.le_of_ble_eq_true rfl) rfl rfl (ac_all (d := d) hn hc g hm
    (fun v m' I' J' W' H' C' w' t' T' a1 a2 a3 _ a5 a6 => kw_va rfl rfl (by omega) (by omega) (h1 v I' J' W' H' C' w' t' T' a1 a5 a6))
    (fun v m' I' J' t' T' a1 a2 a3 _ a5 => kw_va rfl rfl (by omega) (by omega) (h2 v I' J' t' T' a1 a5)))⟩
end ACT
