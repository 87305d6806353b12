/-! ===== the public methods of the class: readings, choices, text, state ===== -/
/-- a byte of a reading -/
def rdB (L : List Int32) (q : Int32) : Int32 := if Int32.ofNat L.length ≤ q then -1 else L.getD q.toNatClampNeg 0
noncomputable def alikeB (W H : Nat) (C : Cel) (g : Nat) : Bool := if bE W H C g = -1 then false else decide (rdg W H C g = rdg W H C (bE W H C g).toNatClampNeg)
noncomputable def hasC (W H : Nat) (C : Cel) (c : Nat) (v : Int32) : Bool := decide (0 < sFd (runC W H (updC C c v) 1))
noncomputable def repS (W H : Nat) (C : Cel) : Nat → Int32
  | 0 => -1
  | c + 1 => if repS W H C c = -1 then (if C c = 35 then (if hasC W H C c 47 then Int32.ofNat (2 * c) else if hasC W H C c 92 then Int32.ofNat (2 * c + 1) else -1) else -1) else repS W H C c
noncomputable def goodM (W H : Nat) (C : Cel) (w : Wds) : Nat → Int64
  | 0 => 0
  | g + 1 => if score w (rdg W H C g) < 0 then goodM W H C w g else goodM W H C w g ||| orB (pC W H C g) (bN W H C g)
noncomputable def toldV (W H : Nat) (C : Cel) (w : Wds) : UInt64 := if rmask C (W * H) = 0 then FP.dconst1 else FP.ddiv (FP.i2d (Int32.ofNat (cntB (bt (goodM W H C w (2 * (W + H)) &&& rmask C (W * H))) 64))) (FP.i2d (Int32.ofNat (cntB (fun c => isRB (C c)) (W * H))))
theorem div_ok : ∀ a, a < 50 → ∀ b, b < 50 → b ≠ 0 → vf_n64 (FP.ddiv (FP.i2d (Int32.ofNat a)) (FP.i2d (Int32.ofNat b))) := by
  unfold vf_n64
  decide +kernel
theorem b2_01 (b : Bool) : b2 b = 0 ∨ b2 b = 1 := by
  cases b
  · exact Or.inl rfl
  · exact Or.inr rfl
/-- one value mixed in -/
def mx1 (h : Int64) (v : Int32) : Int64 := 31 * h + v.toInt64
def itN (f : Nat → Int64 → Int64) : Nat → Int64 → Int64
  | 0, h => h
  | n + 1, h => f n (itN f n h)
noncomputable def dgG (W H : Nat) (C : Cel) (w : Wds) (g : Nat) (h : Int64) : Int64 := mx1 (itN (fun i h => mx1 h ((rdg W H C g).getD i 0)) (rdg W H C g).length (itN (fun k h => mx1 h (bF W H C g k)) 7 h)) (score w (rdg W H C g))
noncomputable def dgS (W H : Nat) (C : Cel) (w : Wds) (n t : Nat) : Int64 :=
  mx1 (mx1 (mxL w w.1 (itN (dgG W H C w) (2 * (W + H)) (itN (fun c h => itN (fun k h => mx1 h (cF W H C c k)) 5 h) (W * H) (itN (fun k h => mx1 h (nF W H C w k)) 10 (mx1 3499 (Int32.ofNat t)))))) (Int32.ofNat (sFd (runC W H C 3)))) (Int32.ofNat n)
theorem okN_0 {most : Nat} (h : 1 ≤ most) : okN50 most (0, 0, false, 0, []) := ⟨by decide, Nat.zero_le _, by decide, by decide⟩
theorem runC_ok {W H : Nat} {C : Cel} {most : Nat} (h : 1 ≤ most) : okN50 most (runC W H C most) := lookS_ok 29 [] 0 _ (by decide) (okN_0 h) h
section PUB2
variable {d nn Ln fz : Nat} {K : Post} {I : HI} {J : HJ} {W H : Nat} {C : Cel} {w : Wds} {hs : List Sav} {t : Nat} {T : Nat → Int32}
theorem RFr.q {I' : HI} (h : RFr I I') : QF I J I' J := ⟨fun a ha => h a (by omega) (by omega), fun _ _ => rfl⟩
theorem RFrb.q {I' : HI} (h : RFrb I I') : QF I J I' J := ⟨fun a ha => h a (by omega) (by omega), fun _ _ => rfl⟩
theorem CSt.ln (hc : CSt I J W H C w hs t T) {g : Nat} (hg : g < 2 * (W + H)) : I 38 g = Int32.ofNat (bN W H C g) := by
  have hb := hc.st.1.g28
  rw [hc.bn.ln g (by omega), if_pos hg]
theorem sp_read (hn : 59 ≤ nn) {p q : Int32} (hc : CSt I J W H C w hs t T) (h1 : (inN p (2 * (W + H)) && decide (0 ≤ q)) = false → K (.inr 1) (hp (fz + 1) nn (lay Ln) I J))
    (h2 : (inN p (2 * (W + H)) && decide (0 ≤ q)) = true → ∀ I', QF I J I' J → K (.inl (some (.int (rdB (rdg W H C p.toNatClampNeg) q)))) (hp (fz + 2) nn (lay Ln) I' J)) : cal (d + 6) 92 [.ref 1, .int p, .int q] (hp (fz + 2) nn (lay Ln) I J) K := by
  have hb := hc.st.1.g28
  refine call_in (Nat.le_of_ble_eq_true rfl) rfl rfl (r_92_0 (d := d + 3) hn ?_)
  rw [hasGate_eq hc.st.1]
  refine b2c (fun e => h1 (by rw [e]; rfl)) (fun e => if_c (fun e2 => ?_) (fun e2 => h1 (by rw [decide_eq_false e2, Bool.and_false])))
  replace h2 := h2 (by rw [e, decide_eq_true e2]; rfl)
  obtain ⟨k1, k2⟩ := inN_nat (by omega) e
  generalize p.toNatClampNeg = g at *
  subst k1
  refine sp_take (d := d) hn hc.st k2 (hc.ln k2) (hc.bn.pa g k2) (fun I' hf hr => kc_0 rfl rfl (r_92_41 (d := d + 3) hn ?_))
  rw [byteAt_eq hr.1 (rdg_len hc.st.W0 hc.st.H0 hc.st.1.n k2) e2]
  exact h2 I' hf.q
theorem sp_wordsOf (hn : 59 ≤ nn) {p : Int32} (hc : CSt I J W H C w hs t T) (h1 : inN p (2 * (W + H)) = false → K (.inr 1) (hp (fz + 1) nn (lay Ln) I J))
    (h2 : inN p (2 * (W + H)) = true → ∀ I', QF I J I' J → K (.inl (some (.int (score w (rdg W H C p.toNatClampNeg))))) (hp (fz + 2) nn (lay Ln) I' J)) : cal (d + 7) 93 [.ref 1, .int p] (hp (fz + 2) nn (lay Ln) I J) K := by
  have hb := hc.st.1.g28
  refine call_in (Nat.le_of_ble_eq_true rfl) rfl rfl (r_93_0 (d := d + 4) hn ?_)
  rw [hasGate_eq hc.st.1]
  refine b2c h1 (fun e => ?_)
  replace h2 := h2 e
  obtain ⟨k1, k2⟩ := inN_nat (by omega) e
  generalize p.toNatClampNeg = g at *
  subst k1
  exact sp_scoreOf (d := d) hn hc.st hc.wd hc.bn k2 (fun I' hf => kc_v rfl rfl (r_93_26 (d := d + 4) hn (h2 I' hf.q)))
theorem sp_alike (hn : 59 ≤ nn) {p : Int32} (hc : CSt I J W H C w hs t T) (h1 : inN p (2 * (W + H)) = false → K (.inr 1) (hp (fz + 1) nn (lay Ln) I J))
    (h2 : inN p (2 * (W + H)) = true → ∀ I', QF I J I' J → K (.inl (some (.int (b2 (alikeB W H C p.toNatClampNeg))))) (hp (fz + 2) nn (lay Ln) I' J)) : cal (d + 6) 94 [.ref 1, .int p] (hp (fz + 2) nn (lay Ln) I J) K := by
  have hb := hc.st.1.g28
  refine call_in (Nat.le_of_ble_eq_true rfl) rfl rfl (r_94_0 (d := d + 3) hn ?_)
  rw [hasGate_eq hc.st.1]
  refine b2c h1 (fun e => ?_)
  replace h2 := h2 e
  obtain ⟨k1, k2⟩ := inN_nat (by omega) e
  generalize p.toNatClampNeg = g at *
  subst k1
  rw [atI_oN (by omega) (by decide), hc.bn.en g (by omega), if_pos k2]
  unfold alikeB at h2
  refine if_c (fun e1 => ?_) (fun e1 => ?_)
  · rw [if_pos e1] at h2
    exact h2 I (QF.rf I J)
  · rw [if_neg e1] at h2
    rcases bE_cases (C := C) hc.st.W0 hc.st.H0 k2 with ⟨h3, -⟩ | ⟨q, h3, -, h5, -⟩
    · exact absurd h3 e1
    · rw [h3] at h2 ⊢
      rw [oN_clamp (by omega)] at h2
      refine sp_take (d := d) hn hc.st k2 (hc.ln k2) (hc.bn.pa g k2) (fun I1 f1 r1 => kc_0 rfl rfl (r_94_53 (d := d + 3) hn ?_))
      have c1 := hc.q (J' := J) f1.q
      refine sp_takeb (d := d) hn c1.st h5 (c1.ln h5) (c1.bn.pa q h5) (fun I2 f2 r2 => kc_0 rfl rfl (r_94_69 (d := d + 3) hn ?_))
      have r1' : LSt I2 (rdg W H C g) := ⟨by rw [f2 53 (by decide) (by decide)]; exact r1.1.1, fun k hk => by rw [f2 54 (by decide) (by decide)]; exact r1.1.2 k hk⟩
      refine sp_hasBytes (d := d + 2) hn r1' (rdg_len c1.st.W0 c1.st.H0 c1.st.1.n k2) r2.1 (rdg_len c1.st.W0 c1.st.H0 c1.st.1.n h5) (kc_v rfl rfl (r_94_80 (d := d + 3) hn ⟨b2_01 _, h2 I2 ((RFr.q (J := J) f1).tr f2.q)⟩))
theorem run_q {I' : HI} {J' : HJ} (h1 : ∀ a, ¬ (47 ≤ a ∧ a ≤ 52) → I' a = I a) (h2 : ∀ a, ¬ (47 ≤ a ∧ a ≤ 48) → J' a = J a) : QF I J I' J' := ⟨fun a ha => h1 a (by omega), h2⟩
theorem sp_choices (hn : 59 ≤ nn) {p : Int32} (hc : CSt I J W H C w hs t T) (h1 : wi p 1 50 = false → K (.inr 0) (hp (fz + 1) nn (lay Ln) I J))
    (h2 : wi p 1 50 = true → ∀ I' J', QF I J I' J' → K (.inl (some (.int (Int32.ofNat (sFd (runC W H C p.toNatClampNeg)))))) (hp (fz + 2) nn (lay Ln) I' J')) : cal (d + 34) 95 [.ref 1, .int p] (hp (fz + 2) nn (lay Ln) I J) K := by
  refine call_in (Nat.le_of_ble_eq_true rfl) rfl rfl (r_95_0 (d := d + 32) hn ?_)
  rw [f_wi]
  refine b2c h1 (fun e => ?_)
  replace h2 := h2 e
  obtain ⟨l1, l2, l3⟩ := wi_nat (a := 1) (b := 50) (by decide) (by decide) e
  generalize p.toNatClampNeg = m at *
  subst l1
  refine sp_run (d := d) hn hc.st hc.bn l2 l3 (fun I' J' f1 f2 r => kc_0 rfl rfl (r_95_36 (d := d + 32) hn ?_))
  rw [r.fd]
  exact h2 I' J' (run_q f1 f2)
noncomputable def nodV (W H : Nat) (C : Cel) (m : Nat) : Int32 := if sSt (runC W H C m) then -2000 else Int32.ofNat (sLk (runC W H C m))
theorem sp_nodes (hn : 59 ≤ nn) {p : Int32} (hc : CSt I J W H C w hs t T) (h1 : wi p 1 50 = false → K (.inr 0) (hp (fz + 1) nn (lay Ln) I J))
    (h2 : wi p 1 50 = true → ∀ I' J', QF I J I' J' → K (.inl (some (.int (nodV W H C p.toNatClampNeg)))) (hp (fz + 2) nn (lay Ln) I' J')) : cal (d + 34) 96 [.ref 1, .int p] (hp (fz + 2) nn (lay Ln) I J) K := by
  refine call_in (Nat.le_of_ble_eq_true rfl) rfl rfl (r_96_0 (d := d + 32) hn ?_)
  rw [f_wi]
  refine b2c h1 (fun e => ?_)
  replace h2 := h2 e
  obtain ⟨l1, l2, l3⟩ := wi_nat (a := 1) (b := 50) (by decide) (by decide) e
  generalize p.toNatClampNeg = m at *
  subst l1
  refine sp_run (d := d) hn hc.st hc.bn l2 l3 (fun I' J' f1 f2 r => kc_0 rfl rfl (r_96_36 (d := d + 32) hn ?_))
  replace h2 := h2 I' J' (run_q f1 f2)
  rw [r.st, r.lk]
  unfold nodV at h2
  refine b2c (fun e => ?_) (fun e => ?_)
  · rw [e, if_neg Bool.false_ne_true] at h2; exact h2
  · rw [e, if_pos rfl] at h2; exact h2
noncomputable def chV (W H : Nat) (C : Cel) (p : Int32) : Int32 := if sFd (runC W H C 1) = 0 then -1 else if Int32.ofNat (sFs (runC W H C 1)).length ≤ p then -1 else (sFs (runC W H C 1)).getD p.toNatClampNeg 0
theorem sp_chosen (hn : 59 ≤ nn) {p : Int32} (hc : CSt I J W H C w hs t T) (h1 : decide (0 ≤ p) = false → K (.inr 1) (hp (fz + 1) nn (lay Ln) I J))
    (h2 : decide (0 ≤ p) = true → ∀ I' J', QF I J I' J' → K (.inl (some (.int (chV W H C p)))) (hp (fz + 2) nn (lay Ln) I' J')) : cal (d + 34) 97 [.ref 1, .int p] (hp (fz + 2) nn (lay Ln) I J) K := by
  refine call_in (Nat.le_of_ble_eq_true rfl) rfl rfl (r_97_0 (d := d + 31) hn (if_c (fun e => ?_) (fun e => h1 (decide_eq_false e))))
  replace h2 := h2 (decide_eq_true e)
  refine sp_run (d := d) (most := 1) hn hc.st hc.bn (by decide) (by decide) (fun I' J' f1 f2 r => kc_0 rfl rfl (r_97_30 (d := d + 31) hn ?_))
  replace h2 := h2 I' J' (run_q f1 f2)
  have ho := runC_ok (W := W) (H := H) (C := C) (most := 1) (by decide)
  have o1 := ho.2.1
  have o2 := ho.2.2.2
  unfold chV at h2
  unfold f_X4_firstBandAt
  rw [r.fd, r.sz]
  by_cases e1 : sFd (runC W H C 1) = 0
  · rw [if_pos e1] at h2
    rw [e1, if_pos (show Int32.ofNat 0 ≤ 0 by decide)]
    exact h2
  · rw [if_neg e1] at h2
    rw [if_neg (show ¬ Int32.ofNat (sFd (runC W H C 1)) ≤ 0 from le_n (b := 0) (by omega) (by omega))]
    by_cases e2 : Int32.ofNat (sFs (runC W H C 1)).length ≤ p
    · rw [if_pos e2] at h2 ⊢
      exact h2
    · rw [if_neg e2] at h2 ⊢
      obtain ⟨k1, k2⟩ := nn_nat e
      have e3 : p.toNatClampNeg < (sFs (runC W H C 1)).length := by
        rw [k1] at e2
        have : ¬ (sFs (runC W H C 1)).length ≤ p.toNatClampNeg := fun z => e2 ((oN_le (by omega) k2).mpr z)
        omega
      have e4 : atI (I' 52) 28 p = (sFs (runC W H C 1)).getD p.toNatClampNeg 0 := by
        generalize p.toNatClampNeg = k at *
        subst k1
        rw [atI_oN (by omega) (by decide)]
        exact r.fs k e3
      rw [e4]
      exact h2
noncomputable def fewV (W H : Nat) (C : Cel) : Int32 := if sFd (runC W H C 50) = 0 then -1 else Int32.ofNat (sSm (runC W H C 50))
theorem sp_fewest (hn : 59 ≤ nn) (hc : CSt I J W H C w hs t T) (h2 : ∀ I' J', QF I J I' J' → K (.inl (some (.int (fewV W H C)))) (hp (fz + 2) nn (lay Ln) I' J')) : cal (d + 34) 98 [.ref 1] (hp (fz + 2) nn (lay Ln) I J) K := by
  refine call_in (Nat.le_of_ble_eq_true rfl) rfl rfl (r_98_0 hn ?_)
  refine sp_run (d := d) (most := 50) hn hc.st hc.bn (by decide) (by decide) (fun I' J' f1 f2 r => kc_0 rfl rfl (r_98_17 hn ?_))
  rw [r.sm]
  exact h2 I' J' (run_q f1 f2)
/-- what a trial of the class changes -/
def TrF (I : HI) (J : HJ) (I' : HI) (J' : HJ) : Prop := (∀ a, ¬ (a = 3 ∨ (35 ≤ a ∧ a ≤ 52)) → I' a = I a) ∧ ∀ a, ¬ (41 ≤ a ∧ a ≤ 48) → J' a = J a
theorem TrF.tr {I' I'' : HI} {J' J'' : HJ} (h : TrF I J I' J') (h2 : TrF I' J' I'' J'') : TrF I J I'' J'' := ⟨fun a ha => (h2.1 a ha).trans (h.1 a ha), fun a ha => (h2.2 a ha).trans (h.2 a ha)⟩
theorem put_st {c : Nat} {v : Int32} (hS : StC I W H C) (hc : c < W * H) : StC (pI2 I 3 49 (Int32.ofNat c) v) W H (updC C c v) ∧ ∀ a, a ≠ 3 → pI2 I 3 49 (Int32.ofNat c) v a = I a := by
  have h49 := hS.1.n
  rw [pI2_oN (by omega) (by decide)]
  refine ⟨⟨⟨?_, ?_, hS.1.2.2⟩, fun x hx => ?_⟩, fun a ha => w2_other _ _ _ ha⟩
  · rw [w2_ne _ _ (by decide)]; exact hS.1.1
  · rw [w2_ne _ _ (by decide)]; exact hS.1.2.1
  · rw [w2_at]
    show _ = if x = c then v else C x
    by_cases e : x = c
    · rw [if_pos ⟨rfl, e⟩, if_pos e]
    · rw [if_neg (fun h => e h.2), if_neg e]; exact hS.2 x hx
theorem sp_hasC (hn : 59 ≤ nn) {fz : Nat} {c : Nat} {v : Int32} (hS : StC I W H C) (hc : c < W * H) (h2 : ∀ I' J', TrF I J I' J' → StC I' W H (updC C c v) → K (.inl (some (.int (b2 (hasC W H C c v))))) (hp fz nn (lay Ln) I' J')) : cal (d + 34) 112 [.ref 1, .int (Int32.ofNat c), .int v] (hp fz nn (lay Ln) I J) K := by
  obtain ⟨s1, f1⟩ := put_st (v := v) hS hc
  refine call_in (Nat.le_of_ble_eq_true rfl) rfl rfl (r_112_0 (d := d + 31) hn ?_)
  refine sp_trace (d := d + 27) hn s1 (fun I2 J2 b2' bi => kc_0 rfl rfl (r_112_20 (d := d + 31) hn ?_))
  have s2 := s1.mono (b2'.1 2 (by omega)) (b2'.1 3 (by omega))
  refine sp_run (d := d) (most := 1) hn s2 bi (by decide) (by decide) (fun I3 J3 f3 g3 r => kc_0 rfl rfl (r_112_36 (d := d + 31) hn ?_))
  have s3 := s2.mono (f3 2 (by omega)) (f3 3 (by omega))
  replace h2 := h2 I3 J3 ⟨fun a ha => by rw [f3 a (by omega), b2'.1 a (by omega), f1 a (by omega)], fun a ha => by rw [g3 a (by omega), b2'.2 a (by omega)]⟩ s3
  have o1 := (runC_ok (W := W) (H := H) (C := updC C c v) (most := 1) (by decide)).2.1
  unfold hasC at h2
  rw [r.fd]
  by_cases e : 0 < sFd (runC W H (updC C c v) 1)
  · rw [decide_eq_true e] at h2
    exact if_n (le_n (b := 0) e (by omega)) h2
  · rw [decide_eq_false e] at h2
    exact if_y (le_y (b := 0) (by omega) (by decide)) h2
theorem updC_2 (C : Cel) (c : Nat) (v u : Int32) : updC (updC C c v) c u = updC C c u := by
  funext x
  show (if x = c then u else if x = c then v else C x) = if x = c then u else C x
  by_cases e : x = c
  · rw [if_pos e, if_pos e]
  · rw [if_neg e, if_neg e, if_neg e]
theorem updC_0 {C : Cel} {c : Nat} {v : Int32} (h : C c = v) : updC C c v = C := by
  funext x
  show (if x = c then v else C x) = C x
  by_cases e : x = c
  · rw [if_pos e, e, h]
  · rw [if_neg e]
theorem sp_repairOf (hn : 59 ≤ nn) {fz : Nat} {c : Nat} (hS : StC I W H C) (hc : c < W * H) (h35 : C c = 35) (h2 : ∀ I' J', TrF I J I' J' → StC I' W H C → K (.inl (some (.int (if hasC W H C c 47 then Int32.ofNat (2 * c) else if hasC W H C c 92 then Int32.ofNat (2 * c + 1) else -1)))) (hp fz nn (lay Ln) I' J')) : cal (d + 35) 111 [.ref 1, .int (Int32.ofNat c)] (hp fz nn (lay Ln) I J) K := by
  have m2 : (2 : Int32) * Int32.ofNat c = Int32.ofNat (2 * c) := oN_mul 2 c
  refine call_in (Nat.le_of_ble_eq_true rfl) rfl rfl (r_111_0 (d := d + 32) hn (sp_hasC (d := d) hn hS hc (fun I1 J1 f1 s1 => kc_v rfl rfl (r_111_9 (d := d + 32) hn ?_))))
  have back : ∀ {I' : HI} {J' : HJ} {v : Int32}, TrF I J I' J' → StC I' W H (updC C c v) → TrF I J (pI2 I' 3 49 (Int32.ofNat c) 35) J' ∧ StC (pI2 I' 3 49 (Int32.ofNat c) 35) W H C := by
    intro I' J' v f s
    obtain ⟨s2, f2⟩ := put_st (v := 35) s hc
    rw [updC_2, updC_0 h35] at s2
    exact ⟨⟨fun a ha => by rw [f2 a (by omega)]; exact f.1 a ha, f.2⟩, s2⟩
  refine b2c (fun e => ?_) (fun e => ?_)
  · refine sp_hasC (d := d) hn s1 hc (fun I2 J2 f2 s2 => kc_v rfl rfl (r_111_26 (d := d + 32) hn ?_))
    rw [updC_2] at s2
    have eh : hasC W H (updC C c 47) c 92 = hasC W H C c 92 := by unfold hasC; rw [updC_2]
    rw [eh]
    obtain ⟨k1, k2⟩ := back (f1.tr f2) s2
    replace h2 := h2 _ _ k1 k2
    rw [e, if_neg Bool.false_ne_true] at h2
    refine b2c (fun e2 => ?_) (fun e2 => ?_)
    · rw [e2, if_neg Bool.false_ne_true] at h2; exact h2
    · rw [e2, if_pos rfl] at h2
      rw [m2, oN_succ]; exact h2
  · obtain ⟨k1, k2⟩ := back f1 s1
    replace h2 := h2 _ _ k1 k2
    rw [e, if_pos rfl] at h2
    rw [m2]; exact h2
theorem sp_repair (hn : 59 ≤ nn) (hc : CSt I J W H C w hs t T) (h2 : ∀ I' J', ClF I J I' J' → CSt I' J' W H C w hs t T → K (.inl (some (.int (repS W H C (W * H))))) (hp (fz + 2) nn (lay Ln) I' J')) : cal (d + 36) 99 [.ref 1] (hp (fz + 2) nn (lay Ln) I J) K := by
  have h49 := hc.st.1.n
  have fin : ∀ x1 x2 I1 J1, TrF I J I1 J1 → StC I1 W H C → x1 = repS W H C (W * H) → cal (d + 33 + 2) 1 [.ref 35, .ref 2] (hp (fz + 2) nn (lay Ln) I1 J1) (KC (d + 33 + 2) 99 K 56 [some (.ref 1), some (.int x1), some (.int x2)] [] (0, 0) 1 (hp (fz + 2) nn (lay Ln) I1 J1)) := by
    intro x1 x2 I1 J1 f1 s1 e
    refine sp_trace (d := d + 29) hn s1 (fun I2 J2 b2' bi => kc_0 rfl rfl (r_99_56 (d := d + 33) hn ?_))
    subst e
    have fI : ∀ a, ¬ (a = 3 ∨ (35 ≤ a ∧ a ≤ 52)) → I2 a = I a := fun a ha => (b2'.1 a (by omega)).trans (f1.1 a ha)
    refine h2 I2 J2 ⟨fun a ha => fI a (by omega), fun a ha => (b2'.2 a (by omega)).trans (f1.2 a (by omega))⟩ ?_
    exact CSt.mk (s1.mono (b2'.1 2 (by omega)) (b2'.1 3 (by omega))) (hc.wd.mono (fI 5 (by omega)) (fI 6 (by omega)) (fI 7 (by omega))) (hc.hi.mono (fun a _ _ => fI a (by omega))) (hc.tx.mono (fI 57 (by omega)) (fI 58 (by omega))) bi
  have stay : ∀ m c, c + m = W * H → repS W H C c ≠ -1 → repS W H C c = repS W H C (W * H) := by
    intro m
    induction m with
    | zero => intro c hm _; rw [show c = W * H from hm]
    | succ m ih =>
      intro c hm hne
      have e1 : repS W H C (c + 1) = repS W H C c := by
        show (if repS W H C c = -1 then _ else repS W H C c) = _
        rw [if_neg hne]
      rw [← ih (c + 1) (by omega) (by rw [e1]; exact hne), e1]
  have lp : ∀ m c, c + m = W * H → ∀ I1 J1, TrF I J I1 J1 → StC I1 W H C → EX (cal (d + 33 + 2)) 99 K 4 [some (.ref 1), some (.int (repS W H C c)), some (.int (Int32.ofNat c))] [] (0, 0) (hp (fz + 2) nn (lay Ln) I1 J1) := by
    intro m
    induction m with
    | zero =>
      intro c hm I1 J1 f1 s1
      obtain rfl : c = W * H := hm
      exact r_99_4 (d := d + 33) hn (if_y (by rw [s1.1.wh]; exact Int32.le_refl _) (fin _ _ I1 J1 f1 s1 rfl))
    | succ m ih =>
      intro c hm I1 J1 f1 s1
      refine r_99_4 (d := d + 33) hn (if_n (by rw [s1.1.wh]; exact le_n (by omega) (by omega)) (if_c (fun e => ?_) (fun e => fin _ _ I1 J1 f1 s1 (stay (m + 1) c hm e))))
      have ih := ih (c + 1) (by omega)
      have er : repS W H C (c + 1) = if C c = 35 then (if hasC W H C c 47 then Int32.ofNat (2 * c) else if hasC W H C c 92 then Int32.ofNat (2 * c + 1) else -1) else -1 := by
        show (if repS W H C c = -1 then _ else repS W H C c) = _
        rw [if_pos e]
      rw [s1.byt (by omega)]
      refine if_c (fun e2 => ?_) (fun e2 => ?_)
      · rw [if_pos e2] at er
        refine sp_repairOf (d := d) hn s1 (by omega) e2 (fun I2 J2 f2 s2 => kc_v rfl rfl (r_99_38 (d := d + 33) hn ?_))
        rw [← er, oN_succ]
        exact ih I2 J2 (f1.tr f2) s2
      · rw [if_neg e2] at er
        have := ih I1 J1 f1 s1
        rw [er] at this
        rw [e, oN_succ]
        exact this
  exact call_in (Nat.le_of_ble_eq_true rfl) rfl rfl (r_99_0 (d := d + 33) hn (lp (W * H) 0 (by omega) I J ⟨fun _ _ => rfl, fun _ _ => rfl⟩ hc.st))
end PUB2
