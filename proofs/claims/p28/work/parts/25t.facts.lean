/-! ===== the class's state; its facts by number ===== -/
def CSt (I : HI) (J : HJ) (W H : Nat) (C : Cel) (w : Wds) (hs : List Sav) (t : Nat) (T : Nat → Int32) : Prop :=
  (StC I W H C) ∧
  (WOK I w) ∧
  (HOK I hs) ∧
  (TXT I t T) ∧
  (BInv W H C I J (2 * (W + H)))
theorem CSt.st {I : HI} {J : HJ} {W H : Nat} {C : Cel} {w : Wds} {hs : List Sav} {t : Nat} {T : Nat → Int32} (h : CSt I J W H C w hs t T) : StC I W H C := h.1
theorem CSt.wd {I : HI} {J : HJ} {W H : Nat} {C : Cel} {w : Wds} {hs : List Sav} {t : Nat} {T : Nat → Int32} (h : CSt I J W H C w hs t T) : WOK I w := h.2.1
theorem CSt.hi {I : HI} {J : HJ} {W H : Nat} {C : Cel} {w : Wds} {hs : List Sav} {t : Nat} {T : Nat → Int32} (h : CSt I J W H C w hs t T) : HOK I hs := h.2.2.1
theorem CSt.tx {I : HI} {J : HJ} {W H : Nat} {C : Cel} {w : Wds} {hs : List Sav} {t : Nat} {T : Nat → Int32} (h : CSt I J W H C w hs t T) : TXT I t T := h.2.2.2.1
theorem CSt.bn {I : HI} {J : HJ} {W H : Nat} {C : Cel} {w : Wds} {hs : List Sav} {t : Nat} {T : Nat → Int32} (h : CSt I J W H C w hs t T) : BInv W H C I J (2 * (W + H)) := h.2.2.2.2
theorem CSt.mk {I : HI} {J : HJ} {W H : Nat} {C : Cel} {w : Wds} {hs : List Sav} {t : Nat} {T : Nat → Int32} (c_st : StC I W H C) (c_wd : WOK I w) (c_hi : HOK I hs) (c_tx : TXT I t T) (c_bn : BInv W H C I J (2 * (W + H))) : CSt I J W H C w hs t T := ⟨c_st, c_wd, c_hi, c_tx, c_bn⟩
/-- what questions change -/
def QF (I : HI) (J : HJ) (I' : HI) (J' : HJ) : Prop := (∀ a, ¬ (47 ≤ a ∧ a ≤ 56) → I' a = I a) ∧ ∀ a, ¬ (47 ≤ a ∧ a ≤ 48) → J' a = J a
/-- what all calls change -/
def ClF (I : HI) (J : HJ) (I' : HI) (J' : HJ) : Prop := (∀ a, ¬ (2 ≤ a ∧ a ≤ 58) → I' a = I a) ∧ ∀ a, ¬ (41 ≤ a ∧ a ≤ 48) → J' a = J a
theorem QF.cl {I I' : HI} {J J' : HJ} (h : QF I J I' J') : ClF I J I' J' := ⟨fun a ha => h.1 a (by omega), fun a ha => h.2 a (by omega)⟩
theorem QF.rf (I : HI) (J : HJ) : QF I J I J := ⟨fun _ _ => rfl, fun _ _ => rfl⟩
theorem ClF.rf (I : HI) (J : HJ) : ClF I J I J := ⟨fun _ _ => rfl, fun _ _ => rfl⟩
theorem QF.tr {I I' I'' : HI} {J J' J'' : HJ} (h : QF I J I' J') (h2 : QF I' J' I'' J'') : QF I J I'' J'' := ⟨fun a ha => (h2.1 a ha).trans (h.1 a ha), fun a ha => (h2.2 a ha).trans (h.2 a ha)⟩
theorem ClF.tr {I I' I'' : HI} {J J' J'' : HJ} (h : ClF I J I' J') (h2 : ClF I' J' I'' J'') : ClF I J I'' J'' := ⟨fun a ha => (h2.1 a ha).trans (h.1 a ha), fun a ha => (h2.2 a ha).trans (h.2 a ha)⟩
theorem BInv.mono {W H : Nat} {C : Cel} {I I' : HI} {J J' : HJ} {G : Nat} (hB : BInv W H C I J G) (f : ∀ a, 35 ≤ a → a ≤ 46 → I' a = I a) (g : ∀ a, 41 ≤ a → a ≤ 42 → J' a = J a) : BInv W H C I' J' G := by
  refine BInv.mk (fun q hq => ?_) (fun q hq => ?_) (fun q hq => ?_) (fun q hq => ?_) (fun q hq => ?_) (fun q hq => ?_) (fun q hq j hj => ?_) (fun c hc => ?_) (fun c hc => ?_) (fun c hc => ?_) ?_ ?_
  · rw [f 37 (by decide) (by decide)]; exact hB.en q hq
  · rw [f 38 (by decide) (by decide)]; exact hB.ln q hq
  · rw [f 39 (by decide) (by decide)]; exact hB.tn q hq
  · rw [f 40 (by decide) (by decide)]; exact hB.rn q hq
  · rw [g 41 (by decide) (by decide)]; exact hB.on q hq
  · rw [g 42 (by decide) (by decide)]; exact hB.tw q hq
  · rw [f 43 (by decide) (by decide)]; exact hB.pa q hq j hj
  · rw [f 44 (by decide) (by decide)]; exact hB.ro c hc
  · rw [f 45 (by decide) (by decide)]; exact hB.co c hc
  · rw [f 46 (by decide) (by decide)]; exact hB.et c hc
  · rw [f 35 (by decide) (by decide)]; exact hB.nf
  · rw [f 35 (by decide) (by decide)]; exact hB.nc
theorem CSt.q {I I' : HI} {J J' : HJ} {W H : Nat} {C : Cel} {w : Wds} {hs : List Sav} {t : Nat} {T : Nat → Int32} (h : CSt I J W H C w hs t T) (hq : QF I J I' J') : CSt I' J' W H C w hs t T :=
  CSt.mk (h.st.mono (hq.1 2 (by omega)) (hq.1 3 (by omega))) (h.wd.mono (hq.1 5 (by omega)) (hq.1 6 (by omega)) (hq.1 7 (by omega))) (h.hi.mono (fun a _ _ => hq.1 a (by omega))) (h.tx.mono (hq.1 57 (by omega)) (hq.1 58 (by omega))) (h.bn.mono (fun a _ _ => hq.1 a (by omega)) (fun a _ _ => hq.2 a (by omega)))
def inN (p : Int32) (n : Nat) : Bool := decide (0 ≤ p) && decide (p < Int32.ofNat n)
def wi (p a b : Int32) : Bool := decide (a ≤ p) && decide (p ≤ b)
theorem nn_nat {p : Int32} (h : 0 ≤ p) : p = Int32.ofNat p.toNatClampNeg ∧ p.toNatClampNeg < 2 ^ 31 := by
  have h0 : 0 ≤ p.toInt := by
    rw [Int32.le_iff_toInt_le] at h
    exact h
  have h1 : p.toInt < 2 ^ 31 := Int32.toInt_lt p
  have h2 : p.toNatClampNeg < 2 ^ 31 := by show p.toInt.toNat < 2 ^ 31; omega
  refine ⟨?_, h2⟩
  rw [← Int32.toInt_inj, oN_toInt h2]
  show p.toInt = (p.toInt.toNat : Int)
  omega
theorem inN_nat {p : Int32} {n : Nat} (hn : n < 2 ^ 31) (h : inN p n = true) : p = Int32.ofNat p.toNatClampNeg ∧ p.toNatClampNeg < n := by
  unfold inN at h
  rw [Bool.and_eq_true] at h
  obtain ⟨e, h2⟩ := nn_nat (decide_eq_true_iff.mp h.1)
  refine ⟨e, ?_⟩
  have h3 := decide_eq_true_iff.mp h.2
  rw [e] at h3
  exact (oN_lt h2 hn).mp h3
theorem wi_nat {p : Int32} {a b : Nat} (ha : a < 2 ^ 31) (hb : b < 2 ^ 31) (h : wi p (Int32.ofNat a) (Int32.ofNat b) = true) : p = Int32.ofNat p.toNatClampNeg ∧ a ≤ p.toNatClampNeg ∧ p.toNatClampNeg ≤ b := by
  unfold wi at h
  rw [Bool.and_eq_true] at h
  have h1 := decide_eq_true_iff.mp h.1
  have h0 : 0 ≤ p := Int32.le_trans (z_le ha) h1
  obtain ⟨e, h2⟩ := nn_nat h0
  have h3 := decide_eq_true_iff.mp h.2
  rw [e] at h1 h3
  exact ⟨e, (oN_le ha h2).mp h1, (oN_le h2 hb).mp h3⟩
theorem f_wi (p a b : Int32) : f_X8_isWithin p a b = b2 (wi p a b) := f_within p a b
theorem has_in {p x : Int32} {n : Nat} (hx : x = Int32.ofNat n) : (if p < 0 then (0 : Int32) else if x ≤ p then 0 else 1) = b2 (inN p n) := by
  subst hx
  unfold inN b2
  by_cases h1 : p < 0
  · have : ¬ 0 ≤ p := Int32.not_le.mpr h1
    rw [if_pos h1, decide_eq_false this]; rfl
  · rw [if_neg h1, decide_eq_true (Int32.not_lt.mp h1)]
    by_cases h2 : Int32.ofNat n ≤ p
    · rw [if_pos h2, decide_eq_false (Int32.not_lt.mpr h2)]; rfl
    · rw [if_neg h2, decide_eq_true (Int32.not_le.mp h2)]; rfl
theorem hasCell_eq {I : HI} {W H : Nat} (hS : Stn I W H) (p : Int32) : f_X5_hasCell p I = b2 (inN p (W * H)) := has_in hS.wh
theorem hasGate_eq {I : HI} {W H : Nat} (hS : Stn I W H) (p : Int32) : f_X5_hasGate p I = b2 (inN p (2 * (W + H))) := has_in hS.gt
theorem hasWord_eq {I : HI} {w : Wds} (hw : WOK I w) (p : Int32) : f_X7_has p I = b2 (inN p w.1) := has_in hw.n
theorem b2c {b : Bool} {x y : Prop} (h0 : b = false → x) (h1 : b = true → y) : if b2 b = 0 then x else y := by
  cases b with
  | false => rw [if_pos (show b2 false = 0 from rfl)]; exact h0 rfl
  | true => rw [if_neg (show ¬ b2 true = 0 by decide)]; exact h1 rfl
/-- facts by number: of a cell, of a band, of the stone -/
noncomputable def cF (W H : Nat) (C : Cel) (c : Nat) : Nat → Int32
  | 0 => C c
  | 1 => lowB W H C 1 c (2 * (W + H))
  | 2 => lowB W H C 0 c (2 * (W + H))
  | 3 => Int32.ofNat (entN W H C c (2 * (W + H)))
  | _ => f_X8_letterOf (C c)
noncomputable def bFr (W H : Nat) (C : Cel) (g : Nat) : Int32 := if bE W H C g = -1 then Int32.ofNat g else if bE W H C g < Int32.ofNat g then bE W H C g else Int32.ofNat g
noncomputable def bF (W H : Nat) (C : Cel) (g : Nat) : Nat → Int32
  | 0 => bFr W H C g
  | 1 => bE W H C g
  | 2 => Int32.ofNat (pC W H C g (bN W H C g - 1))
  | 3 => Int32.ofNat (bN W H C g)
  | 4 => Int32.ofNat (cntB (fun j => isCB (C (pC W H C g j))) (bN W H C g))
  | 5 => Int32.ofNat (cntB (fun j => isRB (C (pC W H C g j))) (bN W H C g))
  | _ => b2 (crB (pC W H C g) (bN W H C g))
noncomputable def nF (W H : Nat) (C : Cel) (w : Wds) : Nat → Int32
  | 0 => Int32.ofNat W
  | 1 => Int32.ofNat H
  | 2 => Int32.ofNat (cntB (fun c => isRB (C c)) (W * H))
  | 3 => Int32.ofNat (cntB (fun c => isSB (C c)) (W * H))
  | 4 => Int32.ofNat (cntB (fun c => isCB (C c)) (W * H))
  | 5 => Int32.ofNat (cntB (fun c => decide (C c = 35)) (W * H))
  | 6 => Int32.ofNat (2 * (W + H))
  | 7 => Int32.ofNat (nFst W H C (2 * (W + H)))
  | 8 => Int32.ofNat (nCrs W H C (2 * (W + H)))
  | _ => Int32.ofNat w.1
/-- the reading from a gate -/
noncomputable def rdg (W H : Nat) (C : Cel) (g : Nat) : List Int32 := (rdW (fun i => C (pC W H C g i)) (bN W H C g)).1
section FCT
variable {d nn Ln : Nat} {fz : Nat} {K : Post} {I : HI} {J : HJ} {W H : Nat} {C : Cel} {w : Wds} {hs : List Sav} {t : Nat} {T : Nat → Int32}
theorem rdg_len (hW : 0 < W) (hH : 0 < H) (h49 : W * H ≤ 49) {g : Nat} (hg : g < 2 * (W + H)) : (rdg W H C g).length ≤ 294 := by
  have h1 := bN_le (C := C) hW hH hg
  have h2 := rdW_len (fun i => C (pC W H C g i)) (bN W H C g)
  unfold rlen at h2
  unfold rdg
  omega
theorem sp_cellFact (hn : 59 ≤ nn) (hS : StC I W H C) (hB : BInv W H C I J (2 * (W + H))) {c k : Nat} (hc : c < W * H) (hk : k ≤ 4) (hK : K (.inl (some (.int (cF W H C c k)))) (hp fz nn (lay Ln) I J)) : cal (d + 4) 107 [.ref 1, .int (Int32.ofNat c), .int (Int32.ofNat k)] (hp fz nn (lay Ln) I J) K := by
  have h49 := hS.1.n
  refine call_in (Nat.le_of_ble_eq_true rfl) rfl rfl (r_107_0 hn ?_)
  have h5 : k = 0 ∨ k = 1 ∨ k = 2 ∨ k = 3 ∨ k = 4 := by omega
  rcases h5 with rfl | rfl | rfl | rfl | rfl
  · refine e_tsw (cx cd_107_1 rfl rfl) (if_n (by decide) (r_107_32 (d := d + 1) hn ?_))
    rw [hS.byt hc]; exact hK
  · refine e_tsw (cx cd_107_1 rfl rfl) (if_n (by decide) (r_107_41 (d := d + 1) hn ?_))
    rw [atI_cell (by omega), hB.ro c (by omega)]; exact hK
  · refine e_tsw (cx cd_107_1 rfl rfl) (if_n (by decide) (r_107_50 (d := d + 1) hn ?_))
    rw [atI_cell (by omega), hB.co c (by omega)]; exact hK
  · refine e_tsw (cx cd_107_1 rfl rfl) (if_n (by decide) (r_107_59 (d := d + 1) hn ?_))
    rw [atI_cell (by omega), hB.et c (by omega)]; exact hK
  · refine e_tsw (cx cd_107_1 rfl rfl) (if_y (by decide) (r_107_68 (d := d + 1) hn ?_))
    rw [hS.byt hc]; exact hK
theorem sp_numberOf (hn : 59 ≤ nn) (hS : StC I W H C) (hw : WOK I w) (hB : BInv W H C I J (2 * (W + H))) {k : Nat} (hk : k ≤ 9) (hK : K (.inl (some (.int (nF W H C w k)))) (hp fz nn (lay Ln) I J)) : cal (d + 6) 108 [.ref 1, .int (Int32.ofNat k)] (hp fz nn (lay Ln) I J) K := by
  have h49 := hS.1.n
  refine call_in (Nat.le_of_ble_eq_true rfl) rfl rfl (r_108_0 (d := d + 4) hn ?_)
  have cg : ∀ (p : Int32 → Bool), cntB (fun c => p (I 3 c)) (W * H) = cntB (fun c => p (C c)) (W * H) := fun p => cntB_congr (fun c hc => by rw [hS.2 c hc])
  have h10 : k = 0 ∨ k = 1 ∨ k = 2 ∨ k = 3 ∨ k = 4 ∨ k = 5 ∨ k = 6 ∨ k = 7 ∨ k = 8 ∨ k = 9 := by omega
  rcases h10 with rfl | rfl | rfl | rfl | rfl | rfl | rfl | rfl | rfl | rfl
  · refine e_tsw (cx cd_108_1 rfl rfl) (if_n (by decide) (r_108_52 (d := d + 4) hn ?_))
    rw [hS.1.1]; exact hK
  · refine e_tsw (cx cd_108_1 rfl rfl) (if_n (by decide) (r_108_60 (d := d + 4) hn ?_))
    rw [hS.1.2.1]; exact hK
  · exact e_tsw (cx cd_108_1 rfl rfl) (if_n (by decide) (r_108_68 (d := d + 4) hn (sp_countRunes hn hS (kc_v rfl rfl (r_108_75 (d := d + 4) hn hK)))))
  · refine e_tsw (cx cd_108_1 rfl rfl) (if_n (by decide) (r_108_76 (d := d + 4) hn (sp_countShared (d := d + 1) hn hS.1 (kc_v rfl rfl (r_108_83 (d := d + 4) hn ?_)))))
    rw [cg isSB]; exact hK
  · refine e_tsw (cx cd_108_1 rfl rfl) (if_n (by decide) (r_108_84 (d := d + 4) hn (sp_countCorners (d := d + 2) hn hS.1 (kc_v rfl rfl (r_108_91 (d := d + 4) hn ?_)))))
    rw [cg isCB]; exact hK
  · refine e_tsw (cx cd_108_1 rfl rfl) (if_n (by decide) (r_108_92 (d := d + 4) hn (sp_countBroken (d := d + 2) hn hS.1 (kc_v rfl rfl (r_108_99 (d := d + 4) hn ?_)))))
    rw [cg (fun v => decide (v = 35))]; exact hK
  · refine e_tsw (cx cd_108_1 rfl rfl) (if_n (by decide) (r_108_100 (d := d + 4) hn ?_))
    rw [hS.1.gt]; exact hK
  · refine e_tsw (cx cd_108_1 rfl rfl) (if_n (by decide) (r_108_108 (d := d + 4) hn ?_))
    rw [hB.nf]; exact hK
  · refine e_tsw (cx cd_108_1 rfl rfl) (if_n (by decide) (r_108_116 (d := d + 4) hn ?_))
    rw [hB.nc]; exact hK
  · refine e_tsw (cx cd_108_1 rfl rfl) (if_y (by decide) (r_108_124 (d := d + 4) hn ?_))
    rw [hw.n]; exact hK
theorem sp_bandFact (hn : 59 ≤ nn) (hS : StC I W H C) (hB : BInv W H C I J (2 * (W + H))) {g k : Nat} (hg : g < 2 * (W + H)) (hk : k ≤ 6) (hK : K (.inl (some (.int (bF W H C g k)))) (hp fz nn (lay Ln) I J)) : cal (d + 4) 109 [.ref 1, .int (Int32.ofNat g), .int (Int32.ofNat k)] (hp fz nn (lay Ln) I J) K := by
  have h49 := hS.1.n
  have hb := hS.1.g28
  have hW := hS.W0
  have hH := hS.H0
  have hbn := bN_le (C := C) hW hH hg
  have hb1 : 1 ≤ bN W H C g := by unfold bN; omega
  refine call_in (Nat.le_of_ble_eq_true rfl) rfl rfl (r_109_0 (d := d + 1) hn ?_)
  have e37 : atI (I 37) 28 (Int32.ofNat g) = bE W H C g := by rw [atI_oN (by omega) (by decide), hB.en g (by omega), if_pos hg]
  have e38 : atI (I 38) 28 (Int32.ofNat g) = Int32.ofNat (bN W H C g) := by rw [atI_oN (by omega) (by decide), hB.ln g (by omega), if_pos hg]
  have h7 : k = 0 ∨ k = 1 ∨ k = 2 ∨ k = 3 ∨ k = 4 ∨ k = 5 ∨ k = 6 := by omega
  rcases h7 with rfl | rfl | rfl | rfl | rfl | rfl | rfl
  · refine e_tsw (cx cd_109_1 rfl rfl) (if_n (by decide) (r_109_40 (d := d + 1) hn ?_))
    unfold f_X0_bandFrom
    rw [e37]; exact hK
  · refine e_tsw (cx cd_109_1 rfl rfl) (if_n (by decide) (r_109_49 (d := d + 1) hn ?_))
    rw [e37]; exact hK
  · refine e_tsw (cx cd_109_1 rfl rfl) (if_n (by decide) (r_109_58 (d := d + 1) hn ?_))
    have e1 : Int32.ofNat (bN W H C g) - 1 = Int32.ofNat (bN W H C g - 1) := oN_sub (b := 1) (by omega)
    rw [e38, e1, path_at (v := pC W H C g (bN W H C g - 1)) (by omega) (by omega) (hB.pa g hg _ (by omega))]
    exact hK
  · refine e_tsw (cx cd_109_1 rfl rfl) (if_n (by decide) (r_109_77 (d := d + 1) hn ?_))
    rw [e38]; exact hK
  · refine e_tsw (cx cd_109_1 rfl rfl) (if_n (by decide) (r_109_86 (d := d + 1) hn ?_))
    rw [atI_oN (by omega) (by decide), hB.tn g (by omega), if_pos hg]; exact hK
  · refine e_tsw (cx cd_109_1 rfl rfl) (if_n (by decide) (r_109_95 (d := d + 1) hn ?_))
    rw [atI_oN (by omega) (by decide), hB.rn g (by omega), if_pos hg]; exact hK
  · refine e_tsw (cx cd_109_1 rfl rfl) (if_y (by decide) (r_109_104 (d := d + 1) hn ?_))
    rw [crs_eq (W := W) (H := H) (C := C) (J := J) (by omega) (fun i hi => by have := pC_lt (C := C) hW hH hg hi; omega) (by rw [hB.tw g (by omega), if_pos hg])]
    have hK : K (.inl (some (.int (b2 (crB (pC W H C g) (bN W H C g)))))) (hp fz nn (lay Ln) I J) := hK
    refine b2c (fun q => ?_) (fun q => ?_)
    · rw [q] at hK; exact hK
    · rw [q] at hK; exact hK
theorem sp_scoreOf (hn : 59 ≤ nn) (hS : StC I W H C) (hw : WOK I w) (hB : BInv W H C I J (2 * (W + H))) {g : Nat} (hg : g < 2 * (W + H)) (hK : ∀ I', RFr I I' → K (.inl (some (.int (score w (rdg W H C g))))) (hp fz nn (lay Ln) I' J)) : cal (d + 6) 110 [.ref 1, .int (Int32.ofNat g)] (hp fz nn (lay Ln) I J) K := by
  have hb := hS.1.g28
  refine call_in (Nat.le_of_ble_eq_true rfl) rfl rfl (r_110_0 hn (sp_take (d := d) hn hS hg (by rw [hB.ln g (by omega), if_pos hg]) (hB.pa g hg) (fun I' hf hr => kc_0 rfl rfl (r_110_16 hn ?_))))
  have hw' : WOK I' w := hw.mono (hf 5 (by decide) (by decide)) (hf 6 (by decide) (by decide)) (hf 7 (by decide) (by decide))
  exact sp_score (d := d) hn hw' hr.1 (rdg_len hS.W0 hS.H0 hS.1.n hg) (kc_v rfl rfl (r_110_27 hn (hK I' hf)))
end FCT
