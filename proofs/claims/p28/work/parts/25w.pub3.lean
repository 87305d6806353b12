/-! ===== the public methods of the class: told, text, undo, digest ===== -/
def addT (t : Nat) (T : Nat → Int32) (v : Int32) : Nat → Int32 := fun k => if k = t then v else T k
section PUB3
variable {d nn Ln fz : Nat} {K : Post} {I : HI} {J : HJ} {W H : Nat} {C : Cel} {w : Wds} {hs : List Sav} {t : Nat} {T : Nat → Int32}
theorem sp_told (hn : 59 ≤ nn) (hc : CSt I J W H C w hs t T) (h2 : ∀ I', QF I J I' J → K (.inl (some (.double (toldV W H C w)))) (hp (fz + 2) nn (lay Ln) I' J)) : cal (d + 7) 100 [.ref 1] (hp (fz + 2) nn (lay Ln) I J) K := by
  have h49 := hc.st.1.n
  have hb := hc.st.1.g28
  refine call_in (Nat.le_of_ble_eq_true rfl) rfl rfl (r_100_0 (d := d + 4) hn (sp_runeMask (d := d + 2) hn hc.st.1 (kc_v rfl rfl (r_100_7 (d := d + 4) hn ?_))))
  rw [hc.st.rm]
  unfold toldV at h2
  refine if_c (fun e => ?_) (fun e => ?_)
  · rw [if_pos ((cmp0 _).mp e)] at h2
    exact h2 I (QF.rf I J)
  · have e' := fun z => e ((cmp0 _).mpr z)
    rw [if_neg e'] at h2
    have lp : ∀ m g, g + m = 2 * (W + H) → ∀ I', QF I J I' J → EX (cal (d + 4 + 2)) 100 K 21 [some (.ref 1), some (.long (rmask C (W * H))), none, some (.long (goodM W H C w g)), none, some (.int (Int32.ofNat g))] [] (0, 0) (hp (fz + 2) nn (lay Ln) I' J) := by
      intro m
      induction m with
      | zero =>
        intro g hg I' hq
        obtain rfl : g = 2 * (W + H) := hg
        have c' := hc.q hq
        refine r_100_21 (d := d + 4) hn (if_y (by rw [c'.st.1.gt]; exact Int32.le_refl _) ?_)
        rw [bitCount_eq, bitCount_eq, cnt_rmask (by omega)]
        refine ⟨div_ok _ ?_ _ ?_ ?_, h2 I' hq⟩
        · have : cntB (bt (goodM W H C w (2 * (W + H)) &&& rmask C (W * H))) 64 ≤ W * H := by
            have h1 : cntB (bt (goodM W H C w (2 * (W + H)) &&& rmask C (W * H))) 64 = cntB (fun c => decide (c < W * H) && (bt (goodM W H C w (2 * (W + H))) c && isRB (C c))) 64 := by
              apply cntB_congr
              intro i _
              rw [bt_and, bt_rmask (by omega)]
              cases decide (i < W * H) <;> cases bt (goodM W H C w (2 * (W + H))) i <;> rfl
            rw [h1, cntB_cut (by omega)]
            exact cntB_le _ _
          omega
        · have := cntB_le (fun c => isRB (C c)) (W * H)
          omega
        · intro z
          apply e'
          apply bt_ext
          intro c _
          rw [bt_rmask (by omega), bt_zero]
          by_cases q : c < W * H
          · have : ¬ 0 < cntB (fun c => isRB (C c)) (W * H) := by omega
            have := fun y => this (cntB_pos.mpr ⟨c, q, y⟩)
            cases y : isRB (C c) with
            | true => exact absurd y this
            | false => rw [Bool.and_false]
          · rw [decide_eq_false q]; rfl
      | succ m ih =>
        intro g hg I' hq
        have c' := hc.q hq
        refine r_100_21 (d := d + 4) hn (if_n (by rw [c'.st.1.gt]; exact le_n (by omega) (by omega)) ?_)
        refine sp_scoreOf (d := d) hn c'.st c'.wd c'.bn (by omega) (fun I2 f2 => kc_v rfl rfl (r_100_39 (d := d + 4) hn ?_))
        have ih := ih (g + 1) (by omega) I2 (hq.tr (RFr.q (J := J) f2))
        have eg : goodM W H C w (g + 1) = if score w (rdg W H C g) < 0 then goodM W H C w g else goodM W H C w g ||| orB (pC W H C g) (bN W H C g) := rfl
        rw [atJ_oN (by omega) (by decide), hc.bn.on g (by omega), if_pos (show g < 2 * (W + H) by omega), oN_succ]
        refine if_c (fun e1 => ?_) (fun e1 => ?_)
        · rw [eg, if_pos e1] at ih; exact ih
        · rw [eg, if_neg e1] at ih; exact ih
    exact lp _ 0 (Nat.zero_add _) I (QF.rf I J)
theorem sp_append (hn : 59 ≤ nn) {p : Int32} (hc : CSt I J W H C w hs t T) (h1 : wi p 0 127 = false → K (.inr 0) (hp (fz + 1) nn (lay Ln) I J)) (h1' : wi p 0 127 = true → t = 60 → K (.inr 2) (hp (fz + 1) nn (lay Ln) I J))
    (h2 : wi p 0 127 = true → t < 60 → ∀ I', ClF I J I' J → CSt I' J W H C w hs (t + 1) (addT t T p) → K (.inl (some (.int (Int32.ofNat (t + 1))))) (hp (fz + 2) nn (lay Ln) I' J)) : cal (d + 3) 101 [.ref 1, .int p] (hp (fz + 2) nn (lay Ln) I J) K := by
  have ht := hc.tx.le
  refine call_in (Nat.le_of_ble_eq_true rfl) rfl rfl (r_101_0 (d := d) hn ?_)
  rw [f_wi]
  refine b2c h1 (fun e => ?_)
  have ef : f_X6_isFull I = b2 (decide (60 ≤ t)) := by
    unfold f_X6_isFull
    rw [hc.tx.n]
    by_cases q : t < 60
    · rw [if_pos (show Int32.ofNat t < 60 from lt_y (b := 60) q (by decide)), decide_eq_false (by omega)]; rfl
    · rw [if_neg (show ¬ Int32.ofNat t < 60 from lt_n (a := t) (b := 60) (by omega) (by omega)), decide_eq_true (by omega)]; rfl
  rw [ef]
  refine b2c (fun e2 => ?_) (fun e2 => h1' e (by have := decide_eq_true_iff.mp e2; omega))
  have h60 : t < 60 := by
    have := decide_eq_false_iff_not.mp e2
    omega
  replace h2 := h2 e h60
  rw [hc.tx.n, oN_succ, pI2_oN h60 (by decide), w2_at, if_pos ⟨rfl, rfl⟩]
  have fr : ∀ a, ¬ (57 ≤ a ∧ a ≤ 58) → w2 (w2 I 58 t p) 57 1 (Int32.ofNat (t + 1)) a = I a := fun a ha => by rw [w2_other _ _ _ (by omega), w2_other _ _ _ (by omega)]
  refine h2 _ ⟨fun a ha => fr a (by omega), fun _ _ => rfl⟩ ?_
  refine CSt.mk (hc.st.mono (fr 2 (by omega)) (fr 3 (by omega))) (hc.wd.mono (fr 5 (by omega)) (fr 6 (by omega)) (fr 7 (by omega))) (hc.hi.mono (fun a _ _ => fr a (by omega))) (TXT.mk ?_ (by omega) (fun k hk => ?_)) (hc.bn.mono (fun a _ _ => fr a (by omega)) (fun _ _ _ => rfl))
  · rw [w2_at, if_pos ⟨rfl, rfl⟩]
  · rw [w2_ne _ _ (by decide), w2_at]
    show _ = if k = t then p else T k
    by_cases q : k = t
    · rw [if_pos ⟨rfl, q⟩, if_pos q]
    · rw [if_neg (fun h => q h.2), if_neg q]; exact hc.tx.at_ k (by omega)
theorem sp_clearText (hn : 59 ≤ nn) (hc : CSt I J W H C w hs t T) (h2 : ∀ I', ClF I J I' J → CSt I' J W H C w hs 0 T → K (.inl (some (.int (Int32.ofNat t)))) (hp (fz + 2) nn (lay Ln) I' J)) : cal (d + 1) 102 [.ref 1] (hp (fz + 2) nn (lay Ln) I J) K := by
  refine sp_X8_clearText hn ?_
  rw [hc.tx.n]
  have fr : ∀ a, a ≠ 57 → w2 I 57 1 0 a = I a := fun a ha => w2_other _ _ _ ha
  refine h2 _ ⟨fun a ha => fr a (by omega), fun _ _ => rfl⟩ ?_
  exact CSt.mk (hc.st.mono (fr 2 (by decide)) (fr 3 (by decide))) (hc.wd.mono (fr 5 (by decide)) (fr 6 (by decide)) (fr 7 (by decide))) (hc.hi.mono (fun a _ h => fr a (by omega))) (TXT.mk (by rw [w2_at, if_pos ⟨rfl, rfl⟩]; rfl) (Nat.zero_le _) (fun k hk => absurd hk (Nat.not_lt_zero k))) (hc.bn.mono (fun a _ h => fr a (by omega)) (fun _ _ _ => rfl))
theorem sp_undo0 (hn : 59 ≤ nn) (hc : CSt I J W H C w [] t T) (h1 : K (.inr 2) (hp (fz + 1) nn (lay Ln) I J)) : cal (d + 1) 104 [.ref 1] (hp (fz + 2) nn (lay Ln) I J) K :=
  call_in (Nat.le_of_ble_eq_true rfl) rfl rfl (r_104_0 hn (if_y hc.hi.1 h1))
theorem sp_undo (hn : 59 ≤ nn) {v : Sav} (hc : CSt I J W H C w (v :: hs) t T) (h2 : ∀ I' J', ClF I J I' J' → CSt I' J' v.1.1 v.1.2.1 v.1.2.2 v.2 hs t T → K (.inl (some (.int (Int32.ofNat hs.length)))) (hp (fz + 2) nn (lay Ln) I' J')) : cal (d + 7) 104 [.ref 1] (hp (fz + 2) nn (lay Ln) I J) K := by
  have hl := hc.hi.2.1
  have h0 : ¬ I 8 2 = 0 := by
    rw [hc.hi.1]
    intro q
    have := (oN_eq (b := 0) (by omega) (by decide)).mp q
    rw [List.length_cons] at this
    omega
  refine call_in (Nat.le_of_ble_eq_true rfl) rfl rfl (r_104_0 hn (if_n h0 ?_))
  refine sp_restore (d := d + 3) hn hc.hi (fun I1 f1 h1 s1 w1 => kc_0 rfl rfl (r_104_36 hn ?_))
  refine sp_trace (d := d) hn s1 (fun I2 J2 b2' bi => kc_0 rfl rfl (r_104_47 hn ?_))
  have g : ∀ a, ¬ (35 ≤ a ∧ a ≤ 46) → I2 a = I1 a := fun a ha => b2'.1 a ha
  rw [g 8 (by omega), h1.1]
  refine h2 I2 J2 ⟨fun a ha => (g a (by omega)).trans (f1 a (by omega) (by omega)), fun a ha => b2'.2 a (by omega)⟩ ?_
  exact CSt.mk (s1.mono (g 2 (by omega)) (g 3 (by omega))) (w1.mono (g 5 (by omega)) (g 6 (by omega)) (g 7 (by omega))) (h1.mono (fun a _ _ => g a (by omega))) (hc.tx.mono ((g 57 (by omega)).trans (f1 57 (by omega) (by omega))) ((g 58 (by omega)).trans (f1 58 (by omega) (by omega)))) bi
end PUB3
