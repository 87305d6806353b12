/-! ===== the public methods of the class ===== -/
def updC (C : Cel) (c : Nat) (v : Int32) : Cel := fun x => if x = c then v else C x
def wRx (w : Wds) (p q : Int32) : Int32 := if Int32.ofNat (w.2.1 p.toNatClampNeg) ≤ q then -1 else w.2.2 p.toNatClampNeg q.toNatClampNeg - 97
section PUB
variable {d nn Ln fz : Nat} {K : Post} {I : HI} {J : HJ} {W H : Nat} {C : Cel} {w : Wds} {hs : List Sav} {t : Nat} {T : Nat → Int32}
theorem sp_saveState (hn : 59 ≤ nn) {fz : Nat} (hc : CSt I J W H C w hs t T) (hK : ∀ I', (∀ a, ¬ (8 ≤ a ∧ a ≤ 34) → I' a = I a) → CSt I' J W H C w ((((W, H, C), w) :: hs).take 4) t T → K (.inl none) (hp fz nn (lay Ln) I' J)) : cal (d + 4) 106 [.ref 1] (hp fz nn (lay Ln) I J) K :=
  call_in (Nat.le_of_ble_eq_true rfl) rfl rfl (r_106_0 hn (sp_save (d := d) hn hc.st hc.wd hc.hi (fun I' hf hh => kc_0 rfl rfl (r_106_15 hn (hK I' hf
    (CSt.mk (hc.st.mono (hf 2 (by omega)) (hf 3 (by omega))) (hc.wd.mono (hf 5 (by omega)) (hf 6 (by omega)) (hf 7 (by omega))) hh (hc.tx.mono (hf 57 (by omega)) (hf 58 (by omega))) (hc.bn.mono (fun a _ _ => hf a (by omega)) (fun _ _ _ => rfl))))))))
/-- a stone that is changed, and traced anew -/
theorem CSt.tr {I' I'' : HI} {J'' : HJ} {W' H' : Nat} {C' : Cel} (hc : CSt I J W H C w hs t T) (hf : ∀ a, ¬ (2 ≤ a ∧ a ≤ 4) → I' a = I a) (hS : StC I' W' H' C') (hb : BFr I' J I'' J'') (hB : BInv W' H' C' I'' J'' (2 * (W' + H'))) : CSt I'' J'' W' H' C' w hs t T ∧ ClF I J I'' J'' := by
  have g : ∀ a, ¬ (2 ≤ a ∧ a ≤ 4) → ¬ (35 ≤ a ∧ a ≤ 46) → I'' a = I a := fun a h1 h2 => (hb.1 a h2).trans (hf a h1)
  refine ⟨CSt.mk (hS.mono (hb.1 2 (by omega)) (hb.1 3 (by omega))) (hc.wd.mono (g 5 (by omega) (by omega)) (g 6 (by omega) (by omega)) (g 7 (by omega) (by omega))) (hc.hi.mono (fun a _ _ => g a (by omega) (by omega))) (hc.tx.mono (g 57 (by omega) (by omega)) (g 58 (by omega) (by omega))) hB, fun a ha => g a (by omega) (by omega), fun a ha => hb.2 a (by omega)⟩
theorem sv_cl {I' : HI} (hf : ∀ a, ¬ (8 ≤ a ∧ a ≤ 34) → I' a = I a) : ClF I J I' J := ⟨fun a ha => hf a (by omega), fun _ _ => rfl⟩
theorem sp_setSize (hn : 59 ≤ nn) {p q : Int32} (hc : CSt I J W H C w hs t T) (h1 : (wi p 2 7 && wi q 2 7) = false → K (.inr 0) (hp (fz + 1) nn (lay Ln) I J))
    (h2 : (wi p 2 7 && wi q 2 7) = true → ∀ I' J', ClF I J I' J' → CSt I' J' p.toNatClampNeg q.toNatClampNeg (fun _ => 46) w ((((W, H, C), w) :: hs).take 4) t T → K (.inl (some (.int (Int32.ofNat (2 * (p.toNatClampNeg + q.toNatClampNeg)))))) (hp (fz + 2) nn (lay Ln) I' J')) :
    cal (d + 7) 81 [.ref 1, .int p, .int q] (hp (fz + 2) nn (lay Ln) I J) K := by
  refine call_in (Nat.le_of_ble_eq_true rfl) rfl rfl (r_81_0 (d := d + 4) hn ?_)
  rw [f_wi, f_wi]
  refine b2c (fun e => h1 (by rw [e]; rfl)) (fun e => b2c (fun e2 => h1 (by rw [e, e2]; rfl)) (fun e2 => ?_))
  replace h2 := h2 (by rw [e, e2]; rfl)
  obtain ⟨k1, k2, k3⟩ := wi_nat (a := 2) (b := 7) (by decide) (by decide) e
  obtain ⟨l1, l2, l3⟩ := wi_nat (a := 2) (b := 7) (by decide) (by decide) e2
  generalize p.toNatClampNeg = W' at *
  generalize q.toNatClampNeg = H' at *
  subst k1
  subst l1
  refine sp_saveState (d := d + 2) hn hc (fun I1 f1 c1 => kc_0 rfl rfl (r_81_28 (d := d + 4) hn ?_))
  have fS : ∀ a, ¬ (2 ≤ a ∧ a ≤ 4) → flI (w2 (w2 I1 2 0 (Int32.ofNat W')) 2 1 (Int32.ofNat H')) 3 49 46 a = I1 a := fun a ha => by
    funext k
    rw [flI_at, if_neg (by omega), w2_other _ _ _ (by omega), w2_other _ _ _ (by omega)]
  have hS : StC (flI (w2 (w2 I1 2 0 (Int32.ofNat W')) 2 1 (Int32.ofNat H')) 3 49 46) W' H' (fun _ => 46) := by
    refine ⟨⟨?_, ?_, ⟨k2, k3⟩, l2, l3⟩, fun c hc => ?_⟩
    · rw [flI_at, if_neg (by omega), w2_at, if_neg (by decide), w2_at, if_pos ⟨rfl, rfl⟩]
    · rw [flI_at, if_neg (by omega), w2_at, if_pos ⟨rfl, rfl⟩]
    · have := n49 k3 l3
      rw [flI_at, if_pos ⟨rfl, by omega⟩]
  refine sp_trace (d := d) hn hS (fun I2 J2 b2 bi => kc_0 rfl rfl (r_81_48 (d := d + 4) hn ?_))
  obtain ⟨c2, f2⟩ := c1.tr fS hS b2 bi
  rw [c2.st.1.gt]
  exact h2 I2 J2 ((sv_cl f1).tr f2) c2
theorem sp_setCell (hn : 59 ≤ nn) {p q : Int32} (hc : CSt I J W H C w hs t T) (h1 : inN p (W * H) = false → K (.inr 1) (hp (fz + 1) nn (lay Ln) I J)) (h1' : inN p (W * H) = true → isOB q = false → K (.inr 0) (hp (fz + 1) nn (lay Ln) I J))
    (h2 : inN p (W * H) = true → isOB q = true → ∀ I' J', ClF I J I' J' → CSt I' J' W H (updC C p.toNatClampNeg q) w ((((W, H, C), w) :: hs).take 4) t T → K (.inl (some (.int (C p.toNatClampNeg)))) (hp (fz + 2) nn (lay Ln) I' J')) :
    cal (d + 7) 82 [.ref 1, .int p, .int q] (hp (fz + 2) nn (lay Ln) I J) K := by
  have h49 := hc.st.1.n
  refine call_in (Nat.le_of_ble_eq_true rfl) rfl rfl (r_82_0 (d := d + 3) hn ?_)
  rw [hasCell_eq hc.st.1, f_cellByte]
  refine b2c h1 (fun e => b2c (h1' e) (fun e2 => ?_))
  replace h2 := h2 e e2
  obtain ⟨k1, k2⟩ := inN_nat (by omega) e
  generalize p.toNatClampNeg = c at *
  subst k1
  refine sp_saveState (d := d + 2) hn hc (fun I1 f1 c1 => kc_0 rfl rfl (r_82_42 (d := d + 3) hn ?_))
  rw [pI2_oN (by omega) (by decide), c1.st.byt k2]
  have hS : StC (w2 I1 3 c q) W H (updC C c q) := by
    refine ⟨⟨?_, ?_, c1.st.1.2.2⟩, fun x hx => ?_⟩
    · rw [w2_ne _ _ (by decide)]; exact c1.st.1.1
    · rw [w2_ne _ _ (by decide)]; exact c1.st.1.2.1
    · rw [w2_at]
      show _ = if x = c then q else C x
      by_cases e : x = c
      · rw [if_pos ⟨rfl, e⟩, if_pos e]
      · rw [if_neg (fun h => e h.2), if_neg e]; exact c1.st.2 x hx
  refine sp_trace (d := d) hn hS (fun I2 J2 b2 bi => kc_0 rfl rfl (r_82_71 (d := d + 3) hn ?_))
  obtain ⟨c2, f2⟩ := c1.tr (fun a ha => w2_other _ _ _ (by omega)) hS b2 bi
  exact h2 I2 J2 ((sv_cl f1).tr f2) c2
theorem sp_turnCorners (hn : 59 ≤ nn) (hc : CSt I J W H C w hs t T)
    (h2 : ∀ I' J', ClF I J I' J' → CSt I' J' W H (fun c => tcB (C c)) w ((((W, H, C), w) :: hs).take 4) t T → K (.inl (some (.int (Int32.ofNat (cntB (fun c => isCB (tcB (C c))) (W * H)))))) (hp (fz + 2) nn (lay Ln) I' J')) :
    cal (d + 7) 83 [.ref 1] (hp (fz + 2) nn (lay Ln) I J) K := by
  refine call_in (Nat.le_of_ble_eq_true rfl) rfl rfl (r_83_0 hn (sp_saveState (d := d + 2) hn hc (fun I1 f1 c1 => kc_0 rfl rfl (r_83_4 hn ?_))))
  refine sp_turnEach (d := d + 3) hn c1.st (fun I2 f2 s2 => kc_0 rfl rfl (r_83_11 hn ?_))
  refine sp_trace (d := d) hn s2 (fun I3 J3 b3 bi => kc_0 rfl rfl (r_83_22 hn ?_))
  obtain ⟨c3, f3⟩ := c1.tr (fun a ha => f2 a (by omega)) s2 b3 bi
  refine sp_countCorners (d := d + 3) hn c3.st.1 (kc_v rfl rfl (r_83_29 hn ?_))
  rw [cntB_congr (q := fun c => isCB (tcB (C c))) (fun c hc => by rw [c3.st.2 c hc])]
  exact h2 I3 J3 ((sv_cl f1).tr f3) c3
theorem sp_turnStone (hn : 59 ≤ nn) (hc : CSt I J W H C w hs t T)
    (h2 : ∀ I' J', ClF I J I' J' → CSt I' J' H W (trC W H C) w ((((W, H, C), w) :: hs).take 4) t T → K (.inl (some (.int (Int32.ofNat (2 * (W + H)))))) (hp (fz + 2) nn (lay Ln) I' J')) :
    cal (d + 7) 84 [.ref 1] (hp (fz + 2) nn (lay Ln) I J) K := by
  refine call_in (Nat.le_of_ble_eq_true rfl) rfl rfl (r_84_0 (d := d + 5) hn (sp_saveState (d := d + 2) hn hc (fun I1 f1 c1 => kc_0 rfl rfl (r_84_4 (d := d + 5) hn ?_))))
  refine sp_turnRight (d := d + 3) hn c1.st (fun I2 f2 s2 => kc_0 rfl rfl (r_84_11 (d := d + 5) hn ?_))
  refine sp_trace (d := d) hn s2 (fun I3 J3 b3 bi => kc_0 rfl rfl (r_84_22 (d := d + 5) hn ?_))
  obtain ⟨c3, f3⟩ := c1.tr f2 s2 b3 bi
  rw [c3.st.1.gt, Nat.add_comm H W]
  exact h2 I3 J3 ((sv_cl f1).tr f3) c3
/-- whether the text can be added as a word -/
def canW (w : Wds) (t : Nat) (T : Nat → Int32) : Bool := isWB t T && decide (w.1 < 8) && !inW w T 0 t
theorem sp_addWord (hn : 59 ≤ nn) (hc : CSt I J W H C w hs t T) (h1 : canW w t T = false → K (.inr 2) (hp (fz + 1) nn (lay Ln) I J))
    (h2 : canW w t T = true → ∀ I' J', ClF I J I' J' → CSt I' J' W H C (addW w t T) ((((W, H, C), w) :: hs).take 4) t T → K (.inl (some (.int (Int32.ofNat w.1)))) (hp (fz + 2) nn (lay Ln) I' J')) :
    cal (d + 6) 85 [.ref 1] (hp (fz + 2) nn (lay Ln) I J) K := by
  have ht := hc.tx.le
  have hn8 := hc.wd.n8
  refine call_in (Nat.le_of_ble_eq_true rfl) rfl rfl (r_85_0 (d := d + 4) hn (sp_isWord (d := d + 2) hn hc.tx (kc_v rfl rfl (r_85_7 (d := d + 4) hn ?_))))
  refine b2c (fun e => h1 (by unfold canW; rw [e]; rfl)) (fun e => ?_)
  unfold f_X7_isFull
  rw [hc.wd.n]
  have e8 : (if Int32.ofNat w.1 < 8 then (0 : Int32) else 1) = b2 (decide (¬ w.1 < 8)) := by
    by_cases q : w.1 < 8
    · rw [if_pos (show Int32.ofNat w.1 < 8 from lt_y (b := 8) q (by decide)), decide_eq_false (fun h => h q)]; rfl
    · rw [if_neg (show ¬ Int32.ofNat w.1 < 8 from lt_n (a := w.1) (b := 8) (by omega) (by omega)), decide_eq_true q]; rfl
  rw [e8, hc.tx.n]
  refine b2c (fun e3 => ?_) (fun e3 => h1 (by unfold canW; have := decide_eq_true_iff.mp e3; rw [e, decide_eq_false this]; rfl))
  have e4 : w.1 < 8 := by
    have := decide_eq_false_iff_not.mp e3
    omega
  have ei : inW w (I 58) 0 t = inW w T 0 t := inW_congr (fun k hk => by rw [Nat.zero_add]; exact hc.tx.at_ k hk)
  refine sp_find (d := d + 1) (s := 0) hn hc.wd (by omega) (fun v hv => kc_v rfl rfl (r_85_42 (d := d + 4) hn ?_))
  rw [ei] at hv
  refine if_c (fun e5 => ?_) (fun e5 => h1 ?_)
  · replace h2 := h2 (by unfold canW; rw [e, decide_eq_true e4, hv.mp e5]; rfl)
    unfold isWB at e
    rw [Bool.and_eq_true, Bool.and_eq_true] at e
    refine sp_saveState (d := d + 1) hn hc (fun I1 f1 c1 => kc_0 rfl rfl (r_85_60 (d := d + 4) hn ?_))
    rw [c1.tx.n]
    refine sp_addW (d := d + 3) hn c1.wd c1.tx (decide_eq_true_iff.mp e.1.1) (decide_eq_true_iff.mp e.1.2) e4 (fun I2 f2 w2 => kc_v rfl rfl (r_85_81 (d := d + 4) hn (h2 I2 J ?_ ?_)))
    · exact ⟨fun a ha => (f2 a (by omega)).trans (f1 a (by omega)), fun _ _ => rfl⟩
    · exact CSt.mk (c1.st.mono (f2 2 (by omega)) (f2 3 (by omega))) w2 (c1.hi.mono (fun a _ _ => f2 a (by omega))) (c1.tx.mono (f2 57 (by omega)) (f2 58 (by omega))) (c1.bn.mono (fun a _ _ => f2 a (by omega)) (fun _ _ _ => rfl))
  · unfold canW
    cases q : inW w T 0 t with
    | true => rw [e, decide_eq_true e4]; rfl
    | false => exact absurd (hv.mpr q) e5
theorem sp_removeWord (hn : 59 ≤ nn) {p : Int32} (hc : CSt I J W H C w hs t T) (h1 : inN p w.1 = false → K (.inr 1) (hp (fz + 1) nn (lay Ln) I J))
    (h2 : inN p w.1 = true → ∀ I' J', ClF I J I' J' → CSt I' J' W H C (rmW w p.toNatClampNeg) ((((W, H, C), w) :: hs).take 4) t T → K (.inl (some (.int (Int32.ofNat (w.1 - 1))))) (hp (fz + 2) nn (lay Ln) I' J')) :
    cal (d + 5) 86 [.ref 1, .int p] (hp (fz + 2) nn (lay Ln) I J) K := by
  have hn8 := hc.wd.n8
  refine call_in (Nat.le_of_ble_eq_true rfl) rfl rfl (r_86_0 (d := d + 3) hn ?_)
  rw [hasWord_eq hc.wd]
  refine b2c h1 (fun e => ?_)
  replace h2 := h2 e
  obtain ⟨k1, k2⟩ := inN_nat (by omega) e
  generalize p.toNatClampNeg = q at *
  subst k1
  refine sp_saveState (d := d) hn hc (fun I1 f1 c1 => kc_0 rfl rfl (r_86_25 (d := d + 3) hn ?_))
  refine sp_rmW (d := d + 1) hn c1.wd k2 (fun I2 f2 w2 => kc_0 rfl rfl (r_86_33 (d := d + 3) hn ?_))
  rw [w2.n]
  refine h2 I2 J ⟨fun a ha => (f2 a (by omega)).trans (f1 a (by omega)), fun _ _ => rfl⟩ ?_
  exact CSt.mk (c1.st.mono (f2 2 (by omega)) (f2 3 (by omega))) w2 (c1.hi.mono (fun a _ _ => f2 a (by omega))) (c1.tx.mono (f2 57 (by omega)) (f2 58 (by omega))) (c1.bn.mono (fun a _ _ => f2 a (by omega)) (fun _ _ _ => rfl))
theorem sp_cell (hn : 59 ≤ nn) {p q : Int32} (hc : CSt I J W H C w hs t T) (h1 : inN p (W * H) = false → K (.inr 1) (hp (fz + 1) nn (lay Ln) I J)) (h1' : inN p (W * H) = true → wi q 0 4 = false → K (.inr 0) (hp (fz + 1) nn (lay Ln) I J))
    (h2 : inN p (W * H) = true → wi q 0 4 = true → K (.inl (some (.int (cF W H C p.toNatClampNeg q.toNatClampNeg)))) (hp (fz + 2) nn (lay Ln) I J)) : cal (d + 5) 87 [.ref 1, .int p, .int q] (hp (fz + 2) nn (lay Ln) I J) K := by
  have h49 := hc.st.1.n
  refine call_in (Nat.le_of_ble_eq_true rfl) rfl rfl (r_87_0 (d := d + 2) hn ?_)
  rw [hasCell_eq hc.st.1, f_wi]
  refine b2c h1 (fun e => b2c (h1' e) (fun e2 => ?_))
  replace h2 := h2 e e2
  obtain ⟨k1, k2⟩ := inN_nat (by omega) e
  obtain ⟨l1, l2, l3⟩ := wi_nat (a := 0) (b := 4) (by decide) (by decide) e2
  generalize p.toNatClampNeg = c at *
  generalize q.toNatClampNeg = k at *
  subst k1
  subst l1
  exact sp_cellFact (d := d) hn hc.st hc.bn k2 l3 (kc_v rfl rfl (r_87_46 (d := d + 2) hn h2))
theorem sp_value (hn : 59 ≤ nn) {p : Int32} (hc : CSt I J W H C w hs t T) (h1 : wi p 0 9 = false → K (.inr 0) (hp (fz + 1) nn (lay Ln) I J))
    (h2 : wi p 0 9 = true → K (.inl (some (.int (nF W H C w p.toNatClampNeg)))) (hp (fz + 2) nn (lay Ln) I J)) : cal (d + 7) 88 [.ref 1, .int p] (hp (fz + 2) nn (lay Ln) I J) K := by
  refine call_in (Nat.le_of_ble_eq_true rfl) rfl rfl (r_88_0 (d := d + 5) hn ?_)
  rw [f_wi]
  refine b2c h1 (fun e => ?_)
  replace h2 := h2 e
  obtain ⟨l1, l2, l3⟩ := wi_nat (a := 0) (b := 9) (by decide) (by decide) e
  generalize p.toNatClampNeg = k at *
  subst l1
  exact sp_numberOf (d := d) hn hc.st hc.wd hc.bn l3 (kc_v rfl rfl (r_88_25 (d := d + 5) hn h2))
theorem sp_word (hn : 59 ≤ nn) {p q : Int32} (hc : CSt I J W H C w hs t T) (h1 : (inN p w.1 && decide (0 ≤ q)) = false → K (.inr 1) (hp (fz + 1) nn (lay Ln) I J))
    (h2 : (inN p w.1 && decide (0 ≤ q)) = true → K (.inl (some (.int (wRx w p q)))) (hp (fz + 2) nn (lay Ln) I J)) : cal (d + 4) 89 [.ref 1, .int p, .int q] (hp (fz + 2) nn (lay Ln) I J) K := by
  have hn8 := hc.wd.n8
  refine call_in (Nat.le_of_ble_eq_true rfl) rfl rfl (r_89_0 (d := d) hn ?_)
  rw [hasWord_eq hc.wd]
  refine b2c (fun e => h1 (by rw [e]; rfl)) (fun e => if_c (fun e2 => ?_) (fun e2 => h1 (by rw [decide_eq_false e2, Bool.and_false])))
  replace h2 := h2 (by rw [e, decide_eq_true e2]; rfl)
  obtain ⟨k1, k2⟩ := inN_nat (by omega) e
  obtain ⟨l1, l2⟩ := nn_nat e2
  unfold wRx at h2
  generalize p.toNatClampNeg = i at *
  generalize q.toNatClampNeg = k at *
  subst k1
  subst l1
  have h8 := hc.wd.l8 i k2
  have ew : f_X7_letterAt (Int32.ofNat i) (Int32.ofNat k) I = if Int32.ofNat (w.2.1 i) ≤ Int32.ofNat k then -1 else w.2.2 i k - 97 := by
    unfold f_X7_letterAt
    rw [atI_oN (by omega) (by decide), hc.wd.ln i k2]
    by_cases z : Int32.ofNat (w.2.1 i) ≤ Int32.ofNat k
    · rw [if_pos z, if_pos z]
    · have z2 : k < w.2.1 i := by
        have : ¬ w.2.1 i ≤ k := fun y => z ((oN_le (by omega) l2).mpr y)
        omega
      rw [if_neg z, if_neg z, wix, atI_oN (by omega) (by decide), hc.wd.lt i k2 k z2]
  rw [ew]
  exact h2
theorem sp_band (hn : 59 ≤ nn) {p q : Int32} (hc : CSt I J W H C w hs t T) (h1 : inN p (2 * (W + H)) = false → K (.inr 1) (hp (fz + 1) nn (lay Ln) I J)) (h1' : inN p (2 * (W + H)) = true → wi q 0 6 = false → K (.inr 0) (hp (fz + 1) nn (lay Ln) I J))
    (h2 : inN p (2 * (W + H)) = true → wi q 0 6 = true → K (.inl (some (.int (bF W H C p.toNatClampNeg q.toNatClampNeg)))) (hp (fz + 2) nn (lay Ln) I J)) : cal (d + 5) 90 [.ref 1, .int p, .int q] (hp (fz + 2) nn (lay Ln) I J) K := by
  have hb := hc.st.1.g28
  refine call_in (Nat.le_of_ble_eq_true rfl) rfl rfl (r_90_0 (d := d + 2) hn ?_)
  rw [hasGate_eq hc.st.1, f_wi]
  refine b2c h1 (fun e => b2c (h1' e) (fun e2 => ?_))
  replace h2 := h2 e e2
  obtain ⟨k1, k2⟩ := inN_nat (by omega) e
  obtain ⟨l1, l2, l3⟩ := wi_nat (a := 0) (b := 6) (by decide) (by decide) e2
  generalize p.toNatClampNeg = c at *
  generalize q.toNatClampNeg = k at *
  subst k1
  subst l1
  exact sp_bandFact (d := d) hn hc.st hc.bn k2 l3 (kc_v rfl rfl (r_90_47 (d := d + 2) hn h2))
/-- whether there is a cell with this number on the way from a gate -/
noncomputable def inP (W H : Nat) (C : Cel) (p q : Int32) : Bool := inN p (2 * (W + H)) && inN q (bN W H C p.toNatClampNeg)
theorem sp_cellOf (hn : 59 ≤ nn) {p q : Int32} (hc : CSt I J W H C w hs t T) (h1 : inP W H C p q = false → K (.inr 1) (hp (fz + 1) nn (lay Ln) I J))
    (h2 : inP W H C p q = true → K (.inl (some (.int (Int32.ofNat (pC W H C p.toNatClampNeg q.toNatClampNeg))))) (hp (fz + 2) nn (lay Ln) I J)) : cal (d + 3) 91 [.ref 1, .int p, .int q] (hp (fz + 2) nn (lay Ln) I J) K := by
  have hb := hc.st.1.g28
  have h49 := hc.st.1.n
  refine call_in (Nat.le_of_ble_eq_true rfl) rfl rfl (r_91_0 (d := d) hn ?_)
  rw [hasGate_eq hc.st.1]
  unfold inP at h1 h2
  refine b2c (fun e => h1 (by rw [e]; rfl)) (fun e => ?_)
  rw [e, Bool.true_and] at h1 h2
  obtain ⟨k1, k2⟩ := inN_nat (by omega) e
  generalize p.toNatClampNeg = g at *
  subst k1
  have hbn := bN_le (C := C) hc.st.W0 hc.st.H0 k2
  rw [atI_oN (by omega) (by decide), hc.bn.ln g (by omega), if_pos k2]
  unfold inN at h1 h2
  refine if_c (fun e1 => h1 (by rw [decide_eq_false (Int32.not_le.mpr e1)]; rfl)) (fun e1 => if_c (fun e2 => ?_) (fun e2 => h1 (by rw [decide_eq_false e2, Bool.and_false])))
  have e1 := Int32.not_lt.mp e1
  replace h2 := h2 (by rw [decide_eq_true e1, decide_eq_true e2]; rfl)
  obtain ⟨l1, l2⟩ := nn_nat e1
  generalize q.toNatClampNeg = k at *
  subst l1
  have hk := (oN_lt l2 (by omega)).mp e2
  rw [path_at (v := pC W H C g k) (by omega) (by omega) (hc.bn.pa g k2 _ hk)]
  exact h2
end PUB
