/-! ===== the public methods of the class: told, text, undo, digest ===== -/
def addT (t : Nat) (T : Nat → Int32) (v : Int32) : Nat → Int32 := fun k => if k = t then v else T k
section PUB3
variable {d nn Ln : Nat} {K : Post} {I : HI} {J : HJ} {W H : Nat} {C : Cel} {w : Wds} {hs : List Sav} {t : Nat} {T : Nat → Int32}
theorem sp_told (hn : 59 ≤ nn) (hc : CSt I J W H C w hs t T) (h2 : ∀ I', QF I J I' J → K (.inl (some (.double (toldV W H C w)))) (hp true nn (lay Ln) I' J)) : cal (d + 7) 100 [.ref 1] (hp true nn (lay Ln) I J) K := by
  have h49 := hc.st.1.n
  have hb := hc.st.1.g28
  refine call_in (Nat.le_of_ble_eq_true rfl) rfl rfl (r_100_0 (d := d + 4) hn (sp_runeMask (d := d + 2) hn hc.st.1 (kc_v rfl rfl (r_100_7 (d := d + 4) hn ?_))))
  rw [hc.st.rm]
  unfold toldV at h2
  refine if_c (fun e => ?_) (fun e => ?_)
  · rw [if_pos ((cmp0 _).mp e)] at h2
    exact h2 I (QF.rf I J)
  · have e' := fun z => e ((cmp0 _).mpr z)
    rw [if_neg e'] at h2
    have lp : ∀ m g, g + m = 2 * (W + H) → ∀ I', QF I J I' J → EX (cal (d + 4 + 2)) 100 K 21 [some (.ref 1), some (.long (rmask C (W * H))), none, some (.long (goodM W H C w g)), none, some (.int (Int32.ofNat g))] [] (0, 0) (hp true nn (lay Ln) I' J) := by
      intro m
      induction m with
      | zero =>
        intro g hg I' hq
        obtain rfl : g = 2 * (W + H) := hg
        have c' := hc.q hq
        refine r_100_21 (d := d + 4) hn (if_y (by rw [c'.st.1.gt]; exact Int32.le_refl _) ?_)
        rw [bitCount_eq, bitCount_eq, cnt_rmask (by omega)]
        refine ⟨div_ok _ ?_ _ ?_ ?_, h2 I' hq⟩
        · have : cntB (bt (goodM W H C w (2 * (W + H)) &&& rmask C (W * H))) 64 ≤ W * H := by
            have h1 : cntB (bt (goodM W H C w (2 * (W + H)) &&& rmask C (W * H))) 64 = cntB (fun c => decide (c < W * H) && (bt (goodM W H C w (2 * (W + H))) c && isRB (C c))) 64 := by
              apply cntB_congr
              intro i _
              rw [bt_and, bt_rmask (by omega)]
              cases decide (i < W * H) <;> cases bt (goodM W H C w (2 * (W + H))) i <;> rfl
            rw [h1, cntB_cut (by omega)]
            exact cntB_le _ _
          omega
        · have := cntB_le (fun c => isRB (C c)) (W * H)
          omega
        · intro z
          apply e'
          apply bt_ext
          intro c _
          rw [bt_rmask (by omega), bt_zero]
          by_cases q : c < W * H
          · have : ¬ 0 < cntB (fun c => isRB (C c)) (W * H) := by omega
            have := fun y => this (cntB_pos.mpr ⟨c, q, y⟩)
            cases y : isRB (C c) with
            | true => exact absurd y this
            | false => rw [Bool.and_false]
          · rw [decide_eq_false q]; rfl
      | succ m ih =>
        intro g hg I' hq
        have c' := hc.q hq
        refine r_100_21 (d := d + 4) hn (if_n (by rw [c'.st.1.gt]; exact le_n (by omega) (by omega)) ?_)
        refine sp_scoreOf (d := d) hn c'.st c'.wd c'.bn (by omega) (fun I2 f2 => kc_v rfl rfl (r_100_39 (d := d + 4) hn ?_))
        have ih := ih (g + 1) (by omega) I2 (hq.tr (RFr.q (J := J) f2))
        have eg : goodM W H C w (g + 1) = if score w (rdg W H C g) < 0 then goodM W H C w g else goodM W H C w g ||| orB (pC W H C g) (bN W H C g) := rfl
        rw [atJ_oN (by omega) (by decide), hc.bn.on g (by omega), if_pos (show g < 2 * (W + H) by omega), oN_succ]
        refine if_c (fun e1 => ?_) (fun e1 => ?_)
        · rw [eg, if_pos e1] at ih; exact ih
        · rw [eg, if_neg e1] at ih; exact ih
    exact lp _ 0 (Nat.zero_add _) I (QF.rf I J)
theorem sp_append (hn : 59 ≤ nn) {p : Int32} (hc : CSt I J W H C w hs t T) (h1 : wi p 0 127 = false → K (.inr 0) (hp true nn (lay Ln) I J)) (h1' : wi p 0 127 = true → t = 60 → K (.inr 2) (hp true nn (lay Ln) I J))
    (h2 : wi p 0 127 = true → t < 60 → ∀ I', ClF I J I' J → CSt I' J W H C w hs (t + 1) (addT t T p) → K (.inl (some (.int (Int32.ofNat (t + 1))))) (hp true nn (lay Ln) I' J)) : cal (d + 3) 101 [.ref 1, .int p] (hp true nn (lay Ln) I J) K := by
  have ht := hc.tx.le
  refine call_in (Nat.le_of_ble_eq_true rfl) rfl rfl (r_101_0 (d := d) hn ?_)
  rw [f_wi]
  refine b2c h1 (fun e => ?_)
  have ef : f_X6_isFull I = b2 (decide (60 ≤ t)) := by
    unfold f_X6_isFull
    rw [hc.tx.n]
    by_cases q : t < 60
    · rw [if_pos (show Int32.ofNat t < 60 from lt_y (b := 60) q (by decide)), decide_eq_false (by omega)]; rfl
    · rw [if_neg (show ¬ Int32.ofNat t < 60 from lt_n (a := t) (b := 60) (by omega) (by omega)), decide_eq_true (by omega)]; rfl
  rw [ef]
  refine b2c (fun e2 => ?_) (fun e2 => h1' e (by have := decide_eq_true_iff.mp e2; omega))
  have h60 : t < 60 := by
    have := decide_eq_false_iff_not.mp e2
    omega
  replace h2 := h2 e h60
  rw [hc.tx.n, oN_succ, pI2_oN h60 (by decide), w2_at, if_pos ⟨rfl, rfl⟩]
  have fr : ∀ a, ¬ (57 ≤ a ∧ a ≤ 58) → w2 (w2 I 58 t p) 57 1 (Int32.ofNat (t + 1)) a = I a := fun a ha => by rw [w2_other _ _ _ (by omega), w2_other _ _ _ (by omega)]
  refine h2 _ ⟨fun a ha => fr a (by omega), fun _ _ => rfl⟩ ?_
  refine CSt.mk (hc.st.mono (fr 2 (by omega)) (fr 3 (by omega))) (hc.wd.mono (fr 5 (by omega)) (fr 6 (by omega)) (fr 7 (by omega))) (hc.hi.mono (fun a _ _ => fr a (by omega))) (TXT.mk ?_ (by omega) (fun k hk => ?_)) (hc.bn.mono (fun a _ _ => fr a (by omega)) (fun _ _ _ => rfl))
  · rw [w2_at, if_pos ⟨rfl, rfl⟩]
  · rw [w2_ne _ _ (by decide), w2_at]
    show _ = if k = t then p else T k
    by_cases q : k = t
    · rw [if_pos ⟨rfl, q⟩, if_pos q]
    · rw [if_neg (fun h => q h.2), if_neg q]; exact hc.tx.at_ k (by omega)
theorem sp_clearText (hn : 59 ≤ nn) (hc : CSt I J W H C w hs t T) (h2 : ∀ I', ClF I J I' J → CSt I' J W H C w hs 0 T → K (.inl (some (.int (Int32.ofNat t)))) (hp true nn (lay Ln) I' J)) : cal (d + 1) 102 [.ref 1] (hp true nn (lay Ln) I J) K := by
  refine sp_X8_clearText hn ?_
  rw [hc.tx.n]
  have fr : ∀ a, a ≠ 57 → w2 I 57 1 0 a = I a := fun a ha => w2_other _ _ _ ha
  refine h2 _ ⟨fun a ha => fr a (by omega), fun _ _ => rfl⟩ ?_
  exact CSt.mk (hc.st.mono (fr 2 (by decide)) (fr 3 (by decide))) (hc.wd.mono (fr 5 (by decide)) (fr 6 (by decide)) (fr 7 (by decide))) (hc.hi.mono (fun a _ h => fr a (by omega))) (TXT.mk (by rw [w2_at, if_pos ⟨rfl, rfl⟩]; rfl) (Nat.zero_le _) (fun k hk => absurd hk (Nat.not_lt_zero k))) (hc.bn.mono (fun a _ h => fr a (by omega)) (fun _ _ _ => rfl))
theorem sp_parse (hn : 59 ≤ nn) (hc : CSt I J W H C w hs t T) (h1 : ∀ i, perr T t = some i → K (.inl (some (.int (-10 - Int32.ofNat i)))) (hp true nn (lay Ln) I J))
    (h2 : perr T t = none → ∀ I' J', ClF I J I' J' → CSt I' J' (prR T t).2.2 ((prR T t).1 + 1) (pcl T t) w ((((W, H, C), w) :: hs).take 4) t T → K (.inl (some (.int (Int32.ofNat (cntB (fun c => isRB (pcl T t c)) ((prR T t).2.2 * ((prR T t).1 + 1))))))) (hp true nn (lay Ln) I' J')) : cal (d + 7) 103 [.ref 1] (hp true nn (lay Ln) I J) K := by
  have ht := hc.tx.le
  refine call_in (Nat.le_of_ble_eq_true rfl) rfl rfl (r_103_0 hn (sp_error (d := d + 1) hn hc.tx (kc_v rfl rfl (r_103_7 hn ?_))))
  cases e : perr T t with
  | some i =>
    have hi : i ≤ 60 := by
      unfold perr at e
      have := fstI_le (pbad T) t
      split at e
      · cases e; omega
      · split at e
        · cases e
        · cases e; omega
    have ep : perI T t = Int32.ofNat i := by unfold perI; rw [e]
    rw [ep]
    exact if_n (g_ne (by omega)) (h1 i e)
  | none =>
    replace h2 := h2 e
    have ep : perI T t = -1 := by unfold perI; rw [e]
    refine if_y ep ?_
    refine sp_saveState (d := d + 2) hn hc (fun I1 f1 c1 => kc_0 rfl rfl (r_103_22 hn ?_))
    refine sp_carve (d := d + 3) hn c1.tx e (fun I2 f2 s2 => kc_0 rfl rfl (r_103_33 hn ?_))
    refine sp_trace (d := d) hn s2 (fun I3 J3 b3 bi => kc_0 rfl rfl (r_103_44 hn ?_))
    obtain ⟨c3, f3⟩ := c1.tr (fun a ha => f2 a (by omega)) s2 b3 bi
    exact sp_countRunes (d := d + 1) hn c3.st (kc_v rfl rfl (r_103_51 hn (h2 I3 J3 ((sv_cl f1).tr f3) c3)))
theorem sp_undo0 (hn : 59 ≤ nn) (hc : CSt I J W H C w [] t T) (h1 : K (.inr 2) (hp true nn (lay Ln) I J)) : cal (d + 1) 104 [.ref 1] (hp true nn (lay Ln) I J) K :=
  call_in (Nat.le_of_ble_eq_true rfl) rfl rfl (r_104_0 hn (if_y hc.hi.1 h1))
theorem sp_undo (hn : 59 ≤ nn) {v : Sav} (hc : CSt I J W H C w (v :: hs) t T) (h2 : ∀ I' J', ClF I J I' J' → CSt I' J' v.1.1 v.1.2.1 v.1.2.2 v.2 hs t T → K (.inl (some (.int (Int32.ofNat hs.length)))) (hp true nn (lay Ln) I' J')) : cal (d + 7) 104 [.ref 1] (hp true nn (lay Ln) I J) K := by
  have hl := hc.hi.2.1
  have h0 : ¬ I 8 2 = 0 := by
    rw [hc.hi.1]
    intro q
    have := (oN_eq (b := 0) (by omega) (by decide)).mp q
    rw [List.length_cons] at this
    omega
  refine call_in (Nat.le_of_ble_eq_true rfl) rfl rfl (r_104_0 hn (if_n h0 ?_))
  refine sp_restore (d := d + 3) hn hc.hi (fun I1 f1 h1 s1 w1 => kc_0 rfl rfl (r_104_36 hn ?_))
  refine sp_trace (d := d) hn s1 (fun I2 J2 b2' bi => kc_0 rfl rfl (r_104_47 hn ?_))
  have g : ∀ a, ¬ (35 ≤ a ∧ a ≤ 46) → I2 a = I1 a := fun a ha => b2'.1 a ha
  rw [g 8 (by omega), h1.1]
  refine h2 I2 J2 ⟨fun a ha => (g a (by omega)).trans (f1 a (by omega) (by omega)), fun a ha => b2'.2 a (by omega)⟩ ?_
  exact CSt.mk (s1.mono (g 2 (by omega)) (g 3 (by omega))) (w1.mono (g 5 (by omega)) (g 6 (by omega)) (g 7 (by omega))) (h1.mono (fun a _ _ => g a (by omega))) (hc.tx.mono ((g 57 (by omega)).trans (f1 57 (by omega) (by omega))) ((g 58 (by omega)).trans (f1 58 (by omega) (by omega)))) bi
theorem sp_mixCells (hn : 59 ≤ nn) {fz : Bool} (hS : StC I W H C) (hB : BInv W H C I J (2 * (W + H))) {h : Int64} (hK : K (.inl (some (.long (itN (fun c h => itN (fun k h => mx1 h (cF W H C c k)) 5 h) (W * H) h)))) (hp fz nn (lay Ln) I J)) : cal (d + 5) 113 [.ref 1, .long h] (hp fz nn (lay Ln) I J) K := by
  have h49 := hS.1.n
  have lp2 : ∀ c, c < W * H → ∀ x, EX (cal (d + 3 + 1)) 113 K 5 [some (.ref 1), none, none, some (.long (itN (fun k h => mx1 h (cF W H C c k)) 5 x)), none, some (.int (Int32.ofNat (c + 1))), none] [] (0, 0) (hp fz nn (lay Ln) I J) →
      ∀ m k, k + m = 5 → EX (cal (d + 3 + 1)) 113 K 20 [some (.ref 1), none, none, some (.long (itN (fun k h => mx1 h (cF W H C c k)) k x)), none, some (.int (Int32.ofNat c)), some (.int (Int32.ofNat k))] [] (0, 0) (hp fz nn (lay Ln) I J) := by
    intro c hc x hx m
    induction m with
    | zero =>
      intro k hk
      obtain rfl : k = 5 := hk
      refine r_113_20 (d := d + 3) hn (if_y (by decide) ?_)
      rw [oN_succ]; exact hx
    | succ m ih =>
      intro k hk
      refine r_113_20 (d := d + 3) hn (if_n (lt_n (a := 4) (b := k) (by omega) (by decide)) ?_)
      refine sp_cellFact (d := d) hn hS hB hc (by omega) (kc_v rfl rfl (r_113_35 (d := d + 3) hn ?_))
      rw [oN_succ]
      exact ih (k + 1) (by omega)
  have lp : ∀ m c, c + m = W * H → EX (cal (d + 3 + 1)) 113 K 5 [some (.ref 1), none, none, some (.long (itN (fun c h => itN (fun k h => mx1 h (cF W H C c k)) 5 h) c h)), none, some (.int (Int32.ofNat c)), none] [] (0, 0) (hp fz nn (lay Ln) I J) := by
    intro m
    induction m with
    | zero =>
      intro c hc
      obtain rfl : c = W * H := hc
      exact r_113_5 (d := d + 3) hn (if_y (by rw [hS.1.wh]; exact Int32.le_refl _) hK)
    | succ m ih =>
      intro c hc
      exact r_113_5 (d := d + 3) hn (if_n (by rw [hS.1.wh]; exact le_n (by omega) (by omega)) (lp2 c (by omega) _ (ih (c + 1) (by omega)) 5 0 (by omega)))
  exact call_in (Nat.le_of_ble_eq_true rfl) rfl rfl (r_113_0 (d := d + 3) hn (lp (W * H) 0 (by omega)))
theorem sp_mixBands (hn : 59 ≤ nn) (hc : CSt I J W H C w hs t T) {h : Int64} (hK : ∀ I', QF I J I' J → K (.inl (some (.long (itN (dgG W H C w) (2 * (W + H)) h)))) (hp true nn (lay Ln) I' J)) : cal (d + 6) 114 [.ref 1, .long h] (hp true nn (lay Ln) I J) K := by
  have hb := hc.st.1.g28
  have lp3 : ∀ g, g < 2 * (W + H) → ∀ x I', QF I J I' J → RSt I' (rdW (fun i => C (pC W H C g i)) (bN W H C g)) → (∀ I'', QF I J I'' J → EX (cal (d + 3 + 2)) 114 K 5 [some (.ref 1), none, none, some (.long (mx1 (itN (fun i h => mx1 h ((rdg W H C g).getD i 0)) (rdg W H C g).length x) (score w (rdg W H C g)))), none, some (.int (Int32.ofNat (g + 1))), none] [] (0, 0) (hp true nn (lay Ln) I'' J)) →
      ∀ m k, k + m = (rdg W H C g).length → EX (cal (d + 3 + 2)) 114 K 67 [some (.ref 1), none, none, some (.long (itN (fun i h => mx1 h ((rdg W H C g).getD i 0)) k x)), none, some (.int (Int32.ofNat g)), some (.int (Int32.ofNat k))] [] (0, 0) (hp true nn (lay Ln) I' J) := by
    intro g hg x I' hq hr hx m
    have c' := hc.q hq
    have hl := rdg_len (C := C) c'.st.W0 c'.st.H0 c'.st.1.n hg
    induction m with
    | zero =>
      intro k hk
      obtain rfl : k = (rdg W H C g).length := hk
      refine r_114_67 (d := d + 3) hn (if_y (by rw [hr.1.1]; exact Int32.le_refl _) ?_)
      refine sp_score (d := d) hn c'.wd hr.1 hl (kc_v rfl rfl (r_114_112 (d := d + 3) hn ?_))
      rw [oN_succ]
      exact hx I' hq
    | succ m ih =>
      intro k hk
      refine r_114_67 (d := d + 3) hn (if_n (by rw [hr.1.1]; exact le_n (show k < (rdg W H C g).length by omega) (show (rdg W H C g).length < 2 ^ 31 by omega)) ?_)
      rw [byteAt_N hr.1 hl (show k < (rdg W H C g).length by omega), oN_succ]
      exact ih (k + 1) (by omega)
  have lp2 : ∀ g, g < 2 * (W + H) → ∀ x I', QF I J I' J → (∀ I'', QF I J I'' J → EX (cal (d + 3 + 2)) 114 K 5 [some (.ref 1), none, none, some (.long (dgG W H C w g x)), none, some (.int (Int32.ofNat (g + 1))), none] [] (0, 0) (hp true nn (lay Ln) I'' J)) →
      ∀ m k, k + m = 7 → EX (cal (d + 3 + 2)) 114 K 20 [some (.ref 1), none, none, some (.long (itN (fun k h => mx1 h (bF W H C g k)) k x)), none, some (.int (Int32.ofNat g)), some (.int (Int32.ofNat k))] [] (0, 0) (hp true nn (lay Ln) I' J) := by
    intro g hg x I' hq hx m
    have c' := hc.q hq
    induction m with
    | zero =>
      intro k hk
      obtain rfl : k = 7 := hk
      refine r_114_20 (d := d + 3) hn (if_y (by decide) ?_)
      refine sp_take (d := d) hn c'.st hg (c'.ln hg) (c'.bn.pa g hg) (fun I2 f2 r2 => kc_0 rfl rfl (r_114_64 (d := d + 3) hn ?_))
      exact lp3 g hg _ I2 (hq.tr (RFr.q (J := J) f2)) r2 hx _ 0 (Nat.zero_add _)
    | succ m ih =>
      intro k hk
      refine r_114_20 (d := d + 3) hn (if_n (lt_n (a := 6) (b := k) (by omega) (by decide)) ?_)
      refine sp_bandFact (d := d + 1) hn c'.st c'.bn hg (by omega) (kc_v rfl rfl (r_114_36 (d := d + 3) hn ?_))
      rw [oN_succ]
      exact ih (k + 1) (by omega)
  have lp : ∀ m g, g + m = 2 * (W + H) → ∀ I', QF I J I' J → EX (cal (d + 3 + 2)) 114 K 5 [some (.ref 1), none, none, some (.long (itN (dgG W H C w) g h)), none, some (.int (Int32.ofNat g)), none] [] (0, 0) (hp true nn (lay Ln) I' J) := by
    intro m
    induction m with
    | zero =>
      intro g hg I' hq
      obtain rfl : g = 2 * (W + H) := hg
      exact r_114_5 (d := d + 3) hn (if_y (by rw [(hc.q hq).st.1.gt]; exact Int32.le_refl _) (hK I' hq))
    | succ m ih =>
      intro g hg I' hq
      refine r_114_5 (d := d + 3) hn (if_n (by rw [(hc.q hq).st.1.gt]; exact le_n (by omega) (by omega)) ?_)
      exact lp2 g (by omega) _ I' hq (fun I'' h'' => ih (g + 1) (by omega) I'' h'') 7 0 (by omega)
  exact call_in (Nat.le_of_ble_eq_true rfl) rfl rfl (r_114_0 (d := d + 3) hn (lp _ 0 (Nat.zero_add _) I (QF.rf I J)))
theorem sp_digest (hn : 59 ≤ nn) (hc : CSt I J W H C w hs t T) (h2 : ∀ I' J', QF I J I' J' → K (.inl (some (.long (dgS W H C w hs.length t)))) (hp true nn (lay Ln) I' J')) : cal (d + 34) 105 [.ref 1] (hp true nn (lay Ln) I J) K := by
  have lp : ∀ m k, k + m = 10 → EX (cal (d + 32 + 1)) 105 K 17 [some (.ref 1), some (.long (itN (fun k h => mx1 h (nF W H C w k)) k (mx1 3499 (Int32.ofNat t)))), none, some (.int (Int32.ofNat k))] [] (0, 0) (hp true nn (lay Ln) I J) := by
    intro m
    induction m with
    | zero =>
      intro k hk
      obtain rfl : k = 10 := hk
      refine r_105_17 (d := d + 32) hn (if_y (by decide) ?_)
      refine sp_mixCells (d := d + 28) hn hc.st hc.bn (kc_v rfl rfl (r_105_45 (d := d + 32) hn ?_))
      refine sp_mixBands (d := d + 27) hn hc (fun I1 q1 => kc_v rfl rfl (r_105_51 (d := d + 32) hn ?_))
      have c1 := hc.q q1
      refine sp_mixL (d := d + 29) hn c1.wd (kc_v rfl rfl (r_105_60 (d := d + 32) hn ?_))
      refine sp_run (d := d) (most := 3) hn c1.st c1.bn (by decide) (by decide) (fun I2 J2 f2 g2 r => kc_0 rfl rfl (r_105_77 (d := d + 32) hn ?_))
      have q2 := q1.tr (run_q f2 g2)
      rw [r.fd, (hc.q q2).hi.1]
      exact h2 I2 J2 q2
    | succ m ih =>
      intro k hk
      refine r_105_17 (d := d + 32) hn (if_n (lt_n (a := 9) (b := k) (by omega) (by decide)) ?_)
      refine sp_numberOf (d := d + 27) hn hc.st hc.wd hc.bn (by omega) (kc_v rfl rfl (r_105_29 (d := d + 32) hn ?_))
      rw [oN_succ]
      exact ih (k + 1) (by omega)
  refine call_in (Nat.le_of_ble_eq_true rfl) rfl rfl (r_105_0 (d := d + 32) hn ?_)
  rw [hc.tx.n]
  exact lp 10 0 (by omega)
end PUB3
