/-! ===== told, the digest, by the reference ===== -/
theorem bt_shr1 (x : Int64) (i : Nat) : bt (x >>> ((1 : Int32).toInt64 &&& 63)) i = (decide (i < 64) && (if 1 + i < 64 then bt x (1 + i) else bt x 63)) := by
  have hs : ((1 : Int32).toInt64 &&& 63).toBitVec.smod 64 = BitVec.ofNat 64 1 := by decide
  unfold bt
  rw [Int64.toBitVec_shiftRight, hs]
  rw [BitVec.sshiftRight_eq', BitVec.toNat_ofNat, Nat.mod_eq_of_lt (by omega), BitVec.getLsbD_sshiftRight]
  by_cases hi : i < 64
  · rw [BitVec.msb_eq_getLsbD_last]
    simp [hi]
  · simp [hi]
theorem or_assoc64 (x y z : Int64) : x ||| y ||| z = x ||| (y ||| z) := by
  apply bt_ext
  intro c _
  simp only [bt_or, Bool.or_assoc]
theorem and_or_d (x y m : Int64) : (x ||| y) &&& m = (x &&& m) ||| (y &&& m) := by
  apply bt_ext
  intro c _
  simp only [bt_or, bt_and]
  cases bt x c <;> cases bt y c <;> cases bt m c <;> rfl
theorem score_sgn (w : Wds) (L : List Int32) (hl : L.length ≤ 294) : score w L < 0 ↔ score w L ≤ 0 := by
  have hs := scS_le (fun k => L.getD k 0) L.length (lsR w L) (L.length + 1)
  unfold score scR
  generalize scS (fun k => L.getD k 0) L.length (lsR w L) (L.length + 1) = S at *
  by_cases h : 0 < S.1 ∧ S.2.1 = S.1
  · rw [if_pos h]
    constructor
    · intro z; exact absurd z (oN_nneg (by omega))
    · intro z
      have := (oN_le (b := 0) (by omega) (by decide)).mp z
      omega
  · rw [if_neg h]
    have neg : (-1 - Int32.ofNat S.2.1 : Int32) < 0 := by
      have hb : S.2.1 < 400 := by omega
      generalize S.2.1 = k at *
      have : ∀ k, k < 400 → (-1 - Int32.ofNat k : Int32) < 0 := by decide +kernel
      exact this k hb
    exact ⟨fun _ => Int32.le_of_lt neg, fun _ => neg⟩
section TLD
variable {d nn Ln : Nat} {fz : Bool} {K : Post} {I : HI} {J : HJ} {W H : Nat} {C : Cel} {w : Wds} {hs : List Sav} {t : Nat} {T : Nat → Int32}
theorem sr_told (hn : 74 ≤ nn) (hR : RfS I W H C w hs t T) (h2 : ∀ I', RQ I J I' J → K (.inl (some (.double (toldV W H C w)))) (hp fz nn (lay Ln) I' J)) : cal (d + 7) 192 [.ref 59] (hp fz nn (lay Ln) I J) K := by
  have hN := hR.now
  have h49 := hN.n
  have hb := hN.g28
  have hW := hN.W0
  have hH := hN.H0
  have Rr : ∀ {I'}, RQ I J I' J → RfS I' W H C w hs t T := fun q => hR.q q
  -- bits counted
  have lp3 : ∀ I2, RQ I J I2 J → ∀ m j, j + m = 64 → ∀ x : Int64, (∀ i, bt x i = bt (goodM W H C w (2 * (W + H)) &&& rmask C (W * H)) (i + j)) →
      EX (cal (d + 3 + 3)) 192 K 94 [none, none, none, some (.int (Int32.ofNat (cntB (fun c => cwB 2 (C c)) (W * H)))), some (.int (Int32.ofNat (cntB (bt (goodM W H C w (2 * (W + H)) &&& rmask C (W * H))) j))), some (.long x), none] [] (0, 0) (hp fz nn (lay Ln) I2 J) := by
    intro I2 q2
    have e2 : (fun c => cwB 2 (C c)) = fun c => isRB (C c) := rfl
    rw [e2]
    generalize hg9 : goodM W H C w (2 * (W + H)) &&& rmask C (W * H) = gm
    have hhi : ∀ i, W * H ≤ i → bt gm i = false := fun i hi => by
      rw [← hg9, bt_and, bt_rmask (by omega), decide_eq_false (by omega), Bool.false_and, Bool.and_false]
    have fin : ∀ j, (∀ i, bt gm (i + j) = false) → (if Int32.ofNat (cntB (fun c => isRB (C c)) (W * H)) = 0 then (K (.inl (some (.double FP.dconst1))) (hp fz nn (lay Ln) I2 J)) else (vf_n64 (FP.ddiv (FP.i2d (Int32.ofNat (cntB (bt gm) j))) (FP.i2d (Int32.ofNat (cntB (fun c => isRB (C c)) (W * H))))) ∧ (K (.inl (some (.double (FP.ddiv (FP.i2d (Int32.ofNat (cntB (bt gm) j))) (FP.i2d (Int32.ofNat (cntB (fun c => isRB (C c)) (W * H)))))))) (hp fz nn (lay Ln) I2 J)))) := by
      intro j hz
      have hc : cntB (bt gm) j = cntB (bt gm) 64 := by
        by_cases q : j ≤ 64
        · rw [show (64 : Nat) = j + (64 - j) by omega, cntB_add, cntB_zero (p := fun i => bt gm (j + i)) (fun i _ => by rw [Nat.add_comm]; exact hz i), Nat.add_zero]
        · rw [show j = 64 + (j - 64) by omega, cntB_add, cntB_zero (p := fun i => bt gm (64 + i)) (fun i _ => bt_hi gm (by omega)), Nat.add_zero]
      have h3 := h2 I2 q2
      unfold toldV at h3
      rw [hg9] at h3
      have hle := cntB_le (fun c => isRB (C c)) (W * H)
      have hr0 : rmask C (W * H) = 0 ↔ cntB (fun c => isRB (C c)) (W * H) = 0 := by
        constructor
        · intro z
          apply cntB_zero
          intro i hi
          have h := congrArg (fun y => bt y i) z
          simp only [bt_rmask (show W * H ≤ 64 by omega), bt_zero, decide_eq_true hi, Bool.true_and] at h
          exact h
        · intro z
          apply bt_ext
          intro i _
          rw [bt_rmask (by omega), bt_zero]
          by_cases q : i < W * H
          · cases y : isRB (C i) with
            | true =>
              have : 0 < cntB (fun c => isRB (C c)) (W * H) := cntB_pos.mpr ⟨i, q, y⟩
              omega
            | false => rw [Bool.and_false]
          · rw [decide_eq_false q]; rfl
      refine if_c (fun e => ?_) (fun e => ?_)
      · rw [if_pos (hr0.mpr ((oN_eq (b := 0) (by omega) (by decide)).mp e))] at h3
        exact h3
      · have e' : cntB (fun c => isRB (C c)) (W * H) ≠ 0 := fun z => e (by rw [z]; rfl)
        rw [if_neg (fun z => e' (hr0.mp z))] at h3
        rw [hc]
        refine ⟨div_ok _ ?_ _ (by omega) e', h3⟩
        have h1 : cntB (bt gm) 64 = cntB (fun c => decide (c < W * H) && bt gm c) 64 := by
          apply cntB_congr
          intro i _
          by_cases q : i < W * H
          · rw [decide_eq_true q, Bool.true_and]
          · rw [hhi i (by omega), Bool.and_false]
        rw [h1, cntB_cut (by omega)]
        exact Nat.lt_of_le_of_lt (cntB_le _ _) (by omega)
    intro m
    induction m with
    | zero =>
      intro j hj x hx
      obtain rfl : j = 64 := hj
      have hx0 : x = 0 := by
        apply bt_ext
        intro c _
        rw [hx c, bt_hi gm (by omega), bt_zero]
      exact r_192_94 (d := d + 3) hn (if_y ((cmp0 _).mpr hx0) (fin 64 (fun i => bt_hi gm (by omega))))
    | succ m ih =>
      intro j hj x hx
      refine r_192_94 (d := d + 3) hn (if_c (fun e => fin j (fun i => ?_)) (fun e => ?_))
      · rw [← hx i, (cmp0 _).mp e, bt_zero]
      · have ih := ih (j + 1) (by omega) (x >>> ((1 : Int32).toInt64 &&& 63)) (fun i => by
          rw [bt_shr1]
          by_cases q : i < 64
          · rw [decide_eq_true q, Bool.true_and]
            by_cases q2 : 1 + i < 64
            · rw [if_pos q2, hx, show 1 + i + j = i + (j + 1) by omega]
            · rw [if_neg q2, hx, hhi _ (by omega), hhi _ (by omega)]
          · rw [decide_eq_false q, Bool.false_and, bt_hi gm (by omega)])
        have ec : cntB (bt gm) (j + 1) = cntB (bt gm) j + (if bt gm j = true then 1 else 0) := rfl
        have e0 : bt x 0 = bt gm j := by rw [hx 0, Nat.zero_add]
        have one : x &&& 1 = 1 ↔ bt x 0 = true := by
          have h1 : (1 : Int64) = bitL 0 := by decide
          constructor
          · intro z
            cases y : bt x 0 with
            | true => rfl
            | false =>
              have := (low_and x (by decide) h1).mpr y
              rw [z] at this
              exact absurd this (by decide)
          · intro z
            apply bt_ext
            intro c _
            rw [h1, bt_and, bt_bit (by decide)]
            by_cases q : c = 0
            · subst q; rw [z]; rfl
            · simp [q]
        rw [ec] at ih
        rw [oN_succ, Int32.add_zero]
        refine if_c (fun e3 => ?_) (fun e3 => ?_)
        · have := one.mp ((cmp1 _ _).mp e3)
          rw [← e0, this, if_pos rfl] at ih
          exact ih
        · have : bt x 0 = false := by
            cases y : bt x 0 with
            | true => exact absurd ((cmp1 _ _).mpr (one.mpr y)) e3
            | false => rfl
          rw [← e0, this, if_neg Bool.false_ne_true, Nat.add_zero] at ih
          exact ih
  -- the runes of a good reading
  have lp2 : ∀ g, g < 2 * (W + H) → ∀ I2, RQ I J I2 J → Wk W H C I2 g → EX (cal (d + 3 + 3)) 192 K 9 [some (.ref 59), some (.long ((goodM W H C w g ||| orB (pC W H C g) (bN W H C g)) &&& rmask C (W * H))), none, some (.int (Int32.ofNat (g + 1))), none, none, none] [] (0, 0) (hp fz nn (lay Ln) I2 J) →
      ∀ m i, i + m = bN W H C g → EX (cal (d + 3 + 3)) 192 K 28 [some (.ref 59), some (.long ((goodM W H C w g &&& rmask C (W * H)) ||| orR C (pC W H C g) i)), none, some (.int (Int32.ofNat g)), some (.int (Int32.ofNat i)), none, none] [] (0, 0) (hp fz nn (lay Ln) I2 J) := by
    intro g hg I2 q2 k2 hx m
    have hN2 := (Rr q2).now
    have hbn := bN_le (C := C) hW hH hg
    induction m with
    | zero =>
      intro i hi
      obtain rfl : i = bN W H C g := hi
      refine r_192_28 (d := d + 3) hn (if_y (by rw [k2.wi.st]; exact Int32.le_refl _) ?_)
      rw [oN_succ, orR_eq (N := W * H) (by omega) (fun i hi => pC_lt hW hH hg hi), ← and_or_d]
      exact hx
    | succ m ih =>
      intro i hi
      have ih := ih (i + 1) (by omega)
      have er : orR C (pC W H C g) (i + 1) = if isRB (C (pC W H C g i)) then orR C (pC W H C g) i ||| bitL (pC W H C g i) else orR C (pC W H C g) i := rfl
      rw [er] at ih
      refine r_192_28 (d := d + 3) hn (if_n (by rw [k2.wi.st]; exact le_n (by omega) (by omega)) ⟨oN_vin (by omega) (by decide), ?_⟩)
      rw [oN_clamp (by omega), k2.wi.pa i (by omega)]
      refine sp_at9 (d := d + 5) hn hN2 (pC_lt hW hH hg (by omega)) (kc_v rfl rfl (r_192_49 (d := d + 3) hn ?_))
      rw [f9_rune, or0, oN_succ, oN_clamp (by omega), k2.wi.pa i (by omega), or_assoc64]
      refine b2c (fun e => ?_) (fun e => ⟨oN_vin (by omega) (by decide), ?_⟩)
      · rw [e, if_neg Bool.false_ne_true] at ih; exact ih
      · rw [e, if_pos rfl] at ih; exact ih
  have lp : ∀ m g, g + m = 2 * (W + H) → ∀ I2, RQ I J I2 J → EX (cal (d + 3 + 3)) 192 K 9 [some (.ref 59), some (.long (goodM W H C w g &&& rmask C (W * H))), none, some (.int (Int32.ofNat g)), none, none, none] [] (0, 0) (hp fz nn (lay Ln) I2 J) := by
    intro m
    induction m with
    | zero =>
      intro g hg I2 q2
      obtain rfl : g = 2 * (W + H) := hg
      have hN2 := (Rr q2).now
      refine r_192_9 (d := d + 3) hn (if_y (by rw [hN2.gt]; exact Int32.le_refl _) (sp_cellsWith (d := d + 2) (k := 2) hn hN2 (by decide) (by decide) (kc_v rfl rfl (r_192_87 (d := d + 3) hn ?_))))
      exact lp3 I2 q2 64 0 (by decide) _ (fun i => by rw [Nat.add_zero])
    | succ m ih =>
      intro g hg I2 q2
      have hg' : g < 2 * (W + H) := by omega
      have hN2 := (Rr q2).now
      have hl := rdg_len (C := C) hW hH h49 hg'
      refine r_192_9 (d := d + 3) hn (if_n (by rw [hN2.gt]; exact le_n (by omega) (by omega)) (sp_wordsFrom (d := d + 1) hn hN2 (Rr q2).ws hg' (fun I3 f3 _ k3 => kc_v rfl rfl (r_192_22 (d := d + 3) hn ?_))))
      have q3 := q2.tr (f3.q (J := J))
      have ih := ih (g + 1) (by omega) I3 q3
      have eg : goodM W H C w (g + 1) = if score w (rdg W H C g) < 0 then goodM W H C w g else goodM W H C w g ||| orB (pC W H C g) (bN W H C g) := rfl
      rw [eg] at ih
      refine if_c (fun e => ?_) (fun e => ?_)
      · rw [if_pos ((score_sgn w _ hl).mpr e)] at ih
        rw [oN_succ]; exact ih
      · rw [if_neg (fun z => e ((score_sgn w _ hl).mp z))] at ih
        have := lp2 g hg' I3 q3 k3 ih (bN W H C g) 0 (Nat.zero_add _)
        rw [show orR C (pC W H C g) 0 = 0 from rfl, or0] at this
        exact this
  refine call_in (Nat.le_of_ble_eq_true rfl) rfl rfl (r_192_0 (d := d + 3) hn ?_)
  have := lp _ 0 (Nat.zero_add _) _ (rq4 (I := I) (J := J) 0)
  rw [show goodM W H C w 0 &&& rmask C (W * H) = 0 from Int64.zero_and] at this
  exact this
/-- the hash as it stands -/
def hJ9 (J : HJ) (h : Int64) : HJ := x2 J 59 30 h
theorem hJ9_at (J : HJ) (h : Int64) : hJ9 J h 59 30 = h := by unfold hJ9; rw [x2_at, if_pos ⟨rfl, rfl⟩]
theorem hJ9_2 (J : HJ) (h h' : Int64) : x2 (hJ9 J h) 59 30 h' = hJ9 J h' := by
  funext a k
  unfold hJ9
  rw [x2_at, x2_at, x2_at]
  by_cases e : a = 59 ∧ k = 30
  · rw [if_pos e, if_pos e]
  · rw [if_neg e, if_neg e, if_neg e]
theorem hJ9_q (h : Int64) : RQ I J I (hJ9 J h) := ⟨fun _ _ _ => rfl, fun a hq => by unfold hJ9; exact x2_other _ _ _ (by omega)⟩
theorem mix_at (J : HJ) (h : Int64) (v : Int32) : x2 (hJ9 J h) 59 30 (31 * (hJ9 J h) 59 30 + v.toInt64) = hJ9 J (mx1 h v) := by
  rw [hJ9_at, hJ9_2]; rfl
theorem sp_mixGate {g : Nat} {h : Int64} (hn : 74 ≤ nn) (hR : RfS I W H C w hs t T) (hg : g < 2 * (W + H)) (hK : ∀ I', RdF I I' → K (.inl none) (hp fz nn (lay Ln) I' (hJ9 J (dgG W H C w g h)))) : cal (d + 6) 197 [.ref 59, .int (Int32.ofNat g)] (hp fz nn (lay Ln) I (hJ9 J h)) K := by
  have hN := hR.now
  have hl := rdg_len (C := C) hN.W0 hN.H0 hN.n hg
  have hgd := gd_rdg W H C g
  have lp2 : ∀ I1, RdF I I1 → Rd9 I1 (rdg W H C g) → ∀ x, (∀ I2, RdF I I2 → K (.inl none) (hp fz nn (lay Ln) I2 (hJ9 J (mx1 (itN (fun i h => mx1 h ((rdg W H C g).getD i 0)) (rdg W H C g).length x) (score w (rdg W H C g)))))) →
      ∀ m k, k + m = (rdg W H C g).length → EX (cal (d + 4 + 1)) 197 K 31 [some (.ref 59), some (.int (Int32.ofNat g)), some (.int (Int32.ofNat k))] [] (0, 0) (hp fz nn (lay Ln) I1 (hJ9 J (itN (fun i h => mx1 h ((rdg W H C g).getD i 0)) k x))) := by
    intro I1 f1 r1 x hx m
    have R1 := hR.q (J := J) (J' := J) f1.q
    induction m with
    | zero =>
      intro k hk
      obtain rfl : k = (rdg W H C g).length := hk
      refine r_197_31 (d := d + 4) hn (if_y (by rw [r1.n]; exact Int32.le_refl _) (sp_wordsFrom (d := d) hn R1.now R1.ws hg (fun I2 f2 _ _ => kc_v rfl rfl (r_197_79 (d := d + 4) hn ?_))))
      rw [mix_at]
      exact hx I2 (f1.tr f2)
    | succ m ih =>
      intro k hk
      have ih := ih (k + 1) (by omega)
      have hk' : k < (rdg W H C g).length := by omega
      have es : itN (fun i h => mx1 h ((rdg W H C g).getD i 0)) (k + 1) x = mx1 (itN (fun i h => mx1 h ((rdg W H C g).getD i 0)) k x) ((rdg W H C g).getD k 0) := rfl
      rw [es] at ih
      refine r_197_31 (d := d + 4) hn (if_n (by rw [r1.n]; exact le_n hk' (by omega)) ⟨oN_vin (by omega) (by decide), ?_⟩)
      rw [oN_clamp (by omega), r1.at_ k hk', oN_succ, mix_at, mix_at]
      rcases hgd k hk' with h3 | ⟨h3, -⟩
      · refine if_n (ph_m1 h3) ?_
        rw [ph_lb h3, show (97 : Int32) + ((rdg W H C g).getD k 0 - 97) = (rdg W H C g).getD k 0 by rw [Int32.add_comm, Int32.sub_add_cancel]]
        exact ih
      · rw [h3] at ih ⊢
        exact if_y rfl ih
  have lp : ∀ m k, k + m = 7 → ∀ I1, RdF I I1 → EX (cal (d + 4 + 1)) 197 K 2 [some (.ref 59), some (.int (Int32.ofNat g)), some (.int (Int32.ofNat k))] [] (0, 0) (hp fz nn (lay Ln) I1 (hJ9 J (itN (fun k h => mx1 h (bF W H C g k)) k h))) := by
    intro m
    induction m with
    | zero =>
      intro k hk I1 f1
      obtain rfl : k = 7 := hk
      have R1 := hR.q (J := J) (J' := J) f1.q
      refine r_197_2 (d := d + 4) hn (if_y (Int32.le_refl _) (sp_readsFrom (d := d + 1) hn R1.now hg (fun I2 f2 r2 _ => kc_0 rfl rfl (r_197_29 (d := d + 4) hn ?_))))
      exact lp2 I2 (f1.tr f2) r2 _ (fun I3 f3 => hK I3 f3) _ 0 (Nat.zero_add _)
    | succ m ih =>
      intro k hk I1 f1
      have R1 := hR.q (J := J) (J' := J) f1.q
      refine r_197_2 (d := d + 4) hn (if_n (le_n (a := 7) (by omega) (by decide)) (sp_tellBand (d := d) hn R1.now hg (by omega) (fun I2 f2 => kc_v rfl rfl (r_197_15 (d := d + 4) hn ?_))))
      rw [mix_at, oN_succ]
      exact ih (k + 1) (by omega) I2 (f1.tr f2.rd)
  exact call_in (Nat.le_of_ble_eq_true rfl) rfl rfl (r_197_0 (d := d + 4) hn (lp 7 0 (by decide) I (RdF.rf I)))
theorem itN_0 (f : Nat → Int64 → Int64) (h : Int64) : itN f 0 h = h := rfl
theorem itN_s (f : Nat → Int64 → Int64) (n : Nat) (h : Int64) : itN f (n + 1) h = f n (itN f n h) := rfl
theorem mxL_0 (w : Wds) (h : Int64) : mxL w 0 h = h := rfl
theorem mxL_s (w : Wds) (i : Nat) (h : Int64) : mxL w (i + 1) h = mxW w i (w.2.1 i) (mxL w i h) := rfl
theorem mxW_0 (w : Wds) (i : Nat) (h : Int64) : mxW w i 0 h = h := rfl
theorem sr_digest (hn : 74 ≤ nn) (hR : RfS I W H C w hs t T) (h2 : ∀ I' J', RQ I J I' J' → K (.inl (some (.long (dgS W H C w hs.length t)))) (hp fz nn (lay Ln) I' J')) : cal (d + 8) 198 [.ref 59] (hp fz nn (lay Ln) I J) K := by
  have h49 := hR.now.n
  have hb := hR.now.g28
  have hw8 := hR.ws.n8
  have RR : ∀ {I' J'}, RQ I J I' J' → RfS I' W H C w hs t T := fun q => hR.q q
  -- the words
  have lpW2 : ∀ I1, RQ I J I1 J → ∀ i, i < w.1 → ∀ x, EX (cal (d + 6 + 1)) 198 K 98 [some (.ref 59), some (.int (Int32.ofNat (i + 1))), none] [] (0, 0) (hp fz nn (lay Ln) I1 (hJ9 J (mxW w i (w.2.1 i) x))) →
      ∀ m k, k + m = w.2.1 i → EX (cal (d + 6 + 1)) 198 K 111 [some (.ref 59), some (.int (Int32.ofNat i)), some (.int (Int32.ofNat k))] [] (0, 0) (hp fz nn (lay Ln) I1 (hJ9 J (mxW w i k x))) := by
    intro I1 q1 i hi x hx m
    have hw := (RR q1).ws
    have h8 := hw.l8 i hi
    induction m with
    | zero =>
      intro k hk
      obtain rfl : k = w.2.1 i := hk
      refine r_198_111 (d := d + 6) hn ?_
      rw [m9, a52, oN_clamp (by omega), hw.ln i hi]
      refine ⟨oN_vin (by omega) (by decide), if_y (Int32.le_refl _) ?_⟩
      rw [oN_succ]; exact hx
    | succ m ih =>
      intro k hk
      refine r_198_111 (d := d + 6) hn ?_
      have e1 : Int32.ofNat (52 + 9 * i) + 1 + Int32.ofNat k = Int32.ofNat (53 + 9 * i + k) := by
        rw [oN_succ, oN_add]; congr 1; omega
      rw [m9, a52, e1, oN_clamp (by omega), oN_clamp (by omega), hw.ln i hi, hw.lt i hi k (by omega), mix_at, oN_succ k]
      exact ⟨oN_vin (by omega) (by decide), if_n (le_n (by omega) (by omega)) ⟨oN_vin (by omega) (by decide), ih (k + 1) (by omega)⟩⟩
  have lpW : ∀ I1, RQ I J I1 J → ∀ x, (dgS W H C w hs.length t = mx1 (mx1 (mxL w w.1 x) (Int32.ofNat (sFd (runC W H C 3)))) (Int32.ofNat hs.length)) → ∀ m i, i + m = w.1 → EX (cal (d + 6 + 1)) 198 K 98 [some (.ref 59), some (.int (Int32.ofNat i)), none] [] (0, 0) (hp fz nn (lay Ln) I1 (hJ9 J (mxL w i x))) := by
    intro I1 q1 x hx m
    have hw := (RR q1).ws
    induction m with
    | zero =>
      intro i hi
      obtain rfl : i = w.1 := hi
      refine r_198_98 (d := d + 6) hn (if_y (by rw [hw.n]; exact Int32.le_refl _) (sp_searches (d := d + 1) (most := 3) hn (RR q1).now (by decide) (by decide) (fun I2 J2 f2 r2 _ => kc_0 rfl rfl (r_198_164 (d := d + 6) hn ?_))))
      have q2 : RQ I J I2 J2 := q1.tr ((hJ9_q (I := I1) (J := J) _).tr f2.q)
      have eh : J2 59 30 = mxL w w.1 x := by rw [f2.2 59 30 (by omega), hJ9_at]
      rw [r2.fd, eh, (RR q2).sv]
      have e1 : ∀ (J' : HJ) (y : Int64), (x2 J' 59 30 y) 59 30 = y := fun J' y => by rw [x2_at, if_pos ⟨rfl, rfl⟩]
      simp only [e1]
      have := h2 I2 (x2 (x2 J2 59 30 (31 * mxL w w.1 x + (Int32.ofNat (sFd (runC W H C 3))).toInt64)) 59 30 (31 * (31 * mxL w w.1 x + (Int32.ofNat (sFd (runC W H C 3))).toInt64) + (Int32.ofNat hs.length).toInt64)) (q2.tr ⟨fun _ _ _ => rfl, fun a hq => by rw [x2_other _ _ _ (by omega), x2_other _ _ _ (by omega)]⟩)
      rw [hx] at this
      exact this
    | succ m ih =>
      intro i hi
      refine r_198_98 (d := d + 6) hn (if_n (by rw [hw.n]; exact le_n (by omega) (by omega)) ?_)
      have h3 := ih (i + 1) (by omega)
      rw [mxL_s] at h3
      have h4 := lpW2 I1 q1 i (by omega) _ h3 _ 0 (Nat.zero_add _)
      rw [mxW_0] at h4
      exact h4
  -- the gates
  have lpG : ∀ x, (dgS W H C w hs.length t = mx1 (mx1 (mxL w w.1 (itN (dgG W H C w) (2 * (W + H)) x)) (Int32.ofNat (sFd (runC W H C 3)))) (Int32.ofNat hs.length)) → ∀ m g, g + m = 2 * (W + H) → ∀ I1, RQ I J I1 J → EX (cal (d + 6 + 1)) 198 K 77 [some (.ref 59), some (.int (Int32.ofNat g)), none] [] (0, 0) (hp fz nn (lay Ln) I1 (hJ9 J (itN (dgG W H C w) g x))) := by
    intro x hx m
    induction m with
    | zero =>
      intro g hg I1 q1
      obtain rfl : g = 2 * (W + H) := hg
      refine r_198_77 (d := d + 6) hn (if_y (by rw [(RR q1).now.gt]; exact Int32.le_refl _) ?_)
      have h3 := lpW I1 q1 _ hx w.1 0 (Nat.zero_add _)
      rw [mxL_0] at h3
      exact h3
    | succ m ih =>
      intro g hg I1 q1
      refine r_198_77 (d := d + 6) hn (if_n (by rw [(RR q1).now.gt]; exact le_n (by omega) (by omega)) (sp_mixGate (d := d + 1) hn (RR q1) (by omega) (fun I2 f2 => kc_0 rfl rfl (r_198_90 (d := d + 6) hn ?_))))
      rw [oN_succ]
      have h3 := ih (g + 1) (by omega) I2 (q1.tr f2.q)
      rw [itN_s] at h3
      exact h3
  -- the cells
  have lpC : ∀ x, (dgS W H C w hs.length t = mx1 (mx1 (mxL w w.1 (itN (dgG W H C w) (2 * (W + H)) (itN (fun c h => itN (fun k h => mx1 h (cF W H C c k)) 5 h) (W * H) x))) (Int32.ofNat (sFd (runC W H C 3)))) (Int32.ofNat hs.length)) → ∀ m c r, r ≤ 4 → 5 * c + r + m = 5 * (W * H) → ∀ I1, RQ I J I1 J → EX (cal (d + 6 + 1)) 198 K 45 [some (.ref 59), some (.int (Int32.ofNat (5 * c + r))), none] [] (0, 0) (hp fz nn (lay Ln) I1 (hJ9 J (itN (fun k h => mx1 h (cF W H C c k)) r (itN (fun c h => itN (fun k h => mx1 h (cF W H C c k)) 5 h) c x)))) := by
    intro x hx m
    have m5 : ∀ {I1}, RQ I J I1 J → (5 : Int32) * (I1 60 0 * I1 60 1) = Int32.ofNat (5 * (W * H)) := fun q1 => by rw [(RR q1).now.wh]; exact oN_mul 5 (W * H)
    induction m with
    | zero =>
      intro c r hr hm I1 q1
      have hr0 : r = 0 := by omega
      have hc0 : c = W * H := by omega
      subst hr0
      subst hc0
      refine r_198_45 (d := d + 6) hn (if_y (by rw [m5 q1]; exact Int32.le_refl _) ?_)
      rw [itN_0]
      have h3 := lpG _ hx _ 0 (Nat.zero_add _) I1 q1
      rw [itN_0] at h3
      exact h3
    | succ m ih =>
      intro c r hr hm I1 q1
      have hc : c < W * H := by omega
      refine r_198_45 (d := d + 6) hn (if_n (by rw [m5 q1]; exact le_n (by omega) (by omega)) ?_)
      have e5 : (5 : Int32) = Int32.ofNat 5 := rfl
      have ed : Int32.ofNat (5 * c + r) / 5 = Int32.ofNat c := by
        rw [e5, oN_div (by omega) (by decide), show (5 * c + r) / 5 = c by omega]
      have em : Int32.ofNat (5 * c + r) - Int32.ofNat (5 * c + r) / 5 * 5 = Int32.ofNat r := by
        rw [e5, oN_mod (by omega) (by decide), show (5 * c + r) % 5 = r by omega]
      rw [em, ed]
      refine sp_tellCell (d := d + 3) hn (RR q1).now hc hr (fun I2 f2 => kc_v rfl rfl (r_198_66 (d := d + 6) hn ?_))
      rw [mix_at, oN_succ]
      by_cases y : r = 4
      · subst y
        have := ih (c + 1) 0 (by decide) (by omega) I2 (q1.tr f2.q)
        rw [show 5 * (c + 1) + 0 = 5 * c + 4 + 1 by omega, itN_0, itN_s, itN_s] at this
        exact this
      · have := ih c (r + 1) (by omega) (by omega) I2 (q1.tr f2.q)
        rw [← Nat.add_assoc] at this
        exact this
  have hdg : dgS W H C w hs.length t = mx1 (mx1 (mxL w w.1 (itN (dgG W H C w) (2 * (W + H)) (itN (fun c h => itN (fun k h => mx1 h (cF W H C c k)) 5 h) (W * H) (itN (fun k h => mx1 h (nF W H C w k)) 10 (mx1 3499 (Int32.ofNat t)))))) (Int32.ofNat (sFd (runC W H C 3)))) (Int32.ofNat hs.length) := by unfold dgS; rfl
  have lpV : ∀ m k, k + m = 10 → ∀ I1, RQ I J I1 J → EX (cal (d + 6 + 1)) 198 K 22 [some (.ref 59), some (.int (Int32.ofNat k)), none] [] (0, 0) (hp fz nn (lay Ln) I1 (hJ9 J (itN (fun k h => mx1 h (nF W H C w k)) k (mx1 3499 (Int32.ofNat t))))) := by
    intro m
    induction m with
    | zero =>
      intro k hk I1 q1
      obtain rfl : k = 10 := hk
      refine r_198_22 (d := d + 6) hn (if_y (Int32.le_refl _) ?_)
      have h3 := lpC _ hdg (5 * (W * H)) 0 0 (by decide) (by omega) I1 q1
      rw [itN_0, itN_0] at h3
      exact h3
    | succ m ih =>
      intro k hk I1 q1
      refine r_198_22 (d := d + 6) hn (if_n (le_n (a := 10) (by omega) (by decide)) (sp_tellValue (d := d + 2) hn (RR q1) (by omega) (fun I2 f2 => kc_v rfl rfl (r_198_34 (d := d + 6) hn ?_))))
      rw [mix_at, oN_succ]
      have h3 := ih (k + 1) (by omega) I2 (q1.tr f2.q)
      rw [itN_s] at h3
      exact h3
  refine call_in (Nat.le_of_ble_eq_true rfl) rfl rfl (r_198_0 (d := d + 6) hn ?_)
  have e0 : x2 (x2 J 59 30 3499) 59 30 (31 * (x2 J 59 30 3499) 59 30 + (I 59 6).toInt64) = hJ9 J (mx1 3499 (Int32.ofNat t)) := by
    rw [hR.tn]
    exact mix_at J 3499 (Int32.ofNat t)
  rw [e0]
  have h3 := lpV 10 0 (by decide) _ (rq4 0)
  rw [itN_0] at h3
  exact h3
end TLD
