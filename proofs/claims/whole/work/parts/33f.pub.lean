/-! ===== the reference's public questions ===== -/
section QUE
variable {d nn Ln : Nat} {fz : Bool} {K : Post} {I : HI} {J : HJ} {W H : Nat} {C : Cel} {w : Wds} {hs : List Sav} {t : Nat} {T : Nat → Int32}
theorem rq4 (v : Int32) : RQ I J (w2 I 59 4 v) J := ⟨fun a k q => by rw [w2_at, if_neg (by omega)], fun _ _ => rfl⟩
theorem at4 (v : Int32) : (w2 I 59 4 v) 59 4 = v := by rw [w2_at, if_pos ⟨rfl, rfl⟩]
theorem NowR.r4 (h : NowR I W H C) (v : Int32) : NowR (w2 I 59 4 v) W H C := h.mono (w2_other _ _ _ (by decide))
theorem RfS.r4 (h : RfS I W H C w hs t T) (v : Int32) : RfS (w2 I 59 4 v) W H C w hs t T := h.q (J := fun _ _ => 0) (J' := fun _ _ => 0) ⟨(rq4 (J := fun _ _ => 0) v).1, fun _ _ => rfl⟩
theorem gate_wi (h : NowR I W H C) (p : Int32) : f_X9_in p 0 (2 * (I 60 0 + I 60 1) - 1) = b2 (inN p (2 * (W + H))) := by
  have := h.g28
  rw [f9_in, h.gt, wi_in (by omega)]
theorem cell_wi (h : NowR I W H C) (p : Int32) : f_X9_in p 0 (I 60 0 * I 60 1 - 1) = b2 (inN p (W * H)) := by
  have := h.n
  rw [f9_in, h.wh, wi_in (by omega)]
theorem sr_cell (hn : 74 ≤ nn) {p q : Int32} (hR : RfS I W H C w hs t T) (h1 : inN p (W * H) = false → ∀ I', RQ I J I' J → I' 59 4 = 1 → K (.inl (some (.int 0))) (hp fz nn (lay Ln) I' J)) (h1' : inN p (W * H) = true → wi q 0 4 = false → ∀ I', RQ I J I' J → I' 59 4 = 2 → K (.inl (some (.int 0))) (hp fz nn (lay Ln) I' J))
    (h2 : inN p (W * H) = true → wi q 0 4 = true → ∀ I', RQ I J I' J → I' 59 4 = 0 → K (.inl (some (.int (cF W H C p.toNatClampNeg q.toNatClampNeg)))) (hp fz nn (lay Ln) I' J)) : cal (d + 5) 169 [.ref 59, .int p, .int q] (hp fz nn (lay Ln) I J) K := by
  have hN := hR.now
  have h49 := hN.n
  refine call_in (Nat.le_of_ble_eq_true rfl) rfl rfl (r_169_0 (d := d + 2) hn ?_)
  rw [cell_wi hN, f9_in]
  refine b2c (fun e => h1 e _ (rq4 1) (at4 1)) (fun e => b2c (fun e2 => h1' e e2 _ (rq4 2) (at4 2)) (fun e2 => ?_))
  replace h2 := h2 e e2
  obtain ⟨k1, k2⟩ := inN_nat (by omega) e
  obtain ⟨l1, l2, l3⟩ := wi_nat (a := 0) (b := 4) (by decide) (by decide) e2
  generalize p.toNatClampNeg = c at *
  generalize q.toNatClampNeg = k at *
  subst k1
  subst l1
  exact sp_tellCell (d := d) hn (hN.r4 0) k2 l3 (fun I' f => kc_v rfl rfl (r_169_43 (d := d + 2) hn (h2 I' ((rq4 0).tr f.q) (by rw [f 59 4 (by omega)]; exact at4 0))))
theorem sr_value (hn : 74 ≤ nn) {p : Int32} (hR : RfS I W H C w hs t T) (h1 : wi p 0 9 = false → ∀ I', RQ I J I' J → I' 59 4 = 1 → K (.inl (some (.int 0))) (hp fz nn (lay Ln) I' J))
    (h2 : wi p 0 9 = true → ∀ I', RQ I J I' J → I' 59 4 = 0 → K (.inl (some (.int (nF W H C w p.toNatClampNeg)))) (hp fz nn (lay Ln) I' J)) : cal (d + 6) 173 [.ref 59, .int p] (hp fz nn (lay Ln) I J) K := by
  refine call_in (Nat.le_of_ble_eq_true rfl) rfl rfl (r_173_0 (d := d + 4) hn ?_)
  rw [f9_in]
  refine b2c (fun e => h1 e _ (rq4 1) (at4 1)) (fun e => ?_)
  replace h2 := h2 e
  obtain ⟨l1, l2, l3⟩ := wi_nat (a := 0) (b := 9) (by decide) (by decide) e
  generalize p.toNatClampNeg = k at *
  subst l1
  exact sp_tellValue (d := d) hn (hR.r4 0) l3 (fun I' f => kc_v rfl rfl (r_173_31 (d := d + 4) hn (h2 I' ((rq4 0).tr f.q) (by rw [f 59 4 (by omega)]; exact at4 0))))
theorem sr_band (hn : 74 ≤ nn) {p q : Int32} (hR : RfS I W H C w hs t T) (h1 : inN p (2 * (W + H)) = false → ∀ I', RQ I J I' J → I' 59 4 = 1 → K (.inl (some (.int 0))) (hp fz nn (lay Ln) I' J)) (h1' : inN p (2 * (W + H)) = true → wi q 0 6 = false → ∀ I', RQ I J I' J → I' 59 4 = 2 → K (.inl (some (.int 0))) (hp fz nn (lay Ln) I' J))
    (h2 : inN p (2 * (W + H)) = true → wi q 0 6 = true → ∀ I', RQ I J I' J → I' 59 4 = 0 → K (.inl (some (.int (bF W H C p.toNatClampNeg q.toNatClampNeg)))) (hp fz nn (lay Ln) I' J)) : cal (d + 6) 165 [.ref 59, .int p, .int q] (hp fz nn (lay Ln) I J) K := by
  have hN := hR.now
  have hb := hN.g28
  refine call_in (Nat.le_of_ble_eq_true rfl) rfl rfl (r_165_0 (d := d + 3) hn ?_)
  rw [gate_wi hN, f9_in]
  refine b2c (fun e => h1 e _ (rq4 1) (at4 1)) (fun e => b2c (fun e2 => h1' e e2 _ (rq4 2) (at4 2)) (fun e2 => ?_))
  replace h2 := h2 e e2
  obtain ⟨k1, k2⟩ := inN_nat (by omega) e
  obtain ⟨l1, l2, l3⟩ := wi_nat (a := 0) (b := 6) (by decide) (by decide) e2
  generalize p.toNatClampNeg = c at *
  generalize q.toNatClampNeg = k at *
  subst k1
  subst l1
  exact sp_tellBand (d := d) hn (hN.r4 0) k2 l3 (fun I' f => kc_v rfl rfl (r_165_44 (d := d + 3) hn (h2 I' ((rq4 0).tr f.q) (by rw [f 59 4 (by omega)]; exact at4 0))))
theorem sr_cellOf (hn : 74 ≤ nn) {p q : Int32} (hR : RfS I W H C w hs t T) (h1 : inP W H C p q = false → ∀ I', RQ I J I' J → I' 59 4 = 1 → K (.inl (some (.int 0))) (hp fz nn (lay Ln) I' J))
    (h2 : inP W H C p q = true → ∀ I', RQ I J I' J → I' 59 4 = 0 → K (.inl (some (.int (Int32.ofNat (pC W H C p.toNatClampNeg q.toNatClampNeg))))) (hp fz nn (lay Ln) I' J)) : cal (d + 4) 166 [.ref 59, .int p, .int q] (hp fz nn (lay Ln) I J) K := by
  have hN := hR.now
  have hb := hN.g28
  have h49 := hN.n
  refine call_in (Nat.le_of_ble_eq_true rfl) rfl rfl (r_166_0 (d := d + 1) hn ?_)
  rw [gate_wi hN]
  unfold inP at h1 h2
  refine b2c (fun e => h1 (by rw [e]; rfl) _ (rq4 1) (at4 1)) (fun e => ?_)
  rw [e, Bool.true_and] at h1 h2
  obtain ⟨k1, k2⟩ := inN_nat (by omega) e
  generalize p.toNatClampNeg = g at *
  subst k1
  have hbn := bN_le (C := C) hN.W0 hN.H0 k2
  unfold inN at h1 h2
  refine if_c (fun e1 => h1 (by rw [decide_eq_false (Int32.not_le.mpr e1)]; rfl) _ (rq4 1) (at4 1)) (fun e1 => ?_)
  have e1 := Int32.not_lt.mp e1
  rw [decide_eq_true e1, Bool.true_and] at h1 h2
  refine sp_walks (d := d + 1) hn hN k2 (fun I1 f1 w1 => kc_0 rfl rfl (r_166_27 (d := d + 1) hn ?_))
  rw [w1.wi.st]
  obtain ⟨l1, l2⟩ := nn_nat e1
  generalize q.toNatClampNeg = k at *
  subst l1
  have q1 := fun v : Int32 => (f1.q (J := J)).tr (rq4 (I := I1) v)
  refine if_c (fun e2 => h1 (decide_eq_false (Int32.not_lt.mpr e2)) _ (q1 1) (at4 1)) (fun e2 => ?_)
  have hk : k < bN W H C g := by
    have : ¬ bN W H C g ≤ k := fun z => e2 ((oN_le (by omega) l2).mpr z)
    omega
  rw [w2_ne _ _ (by decide), w1.wi.pa k hk]
  exact ⟨oN_vin (by omega) (by decide), h2 (decide_eq_true (Int32.not_le.mp e2)) _ (q1 0) (at4 0)⟩
theorem sr_word (hn : 74 ≤ nn) {p q : Int32} (hR : RfS I W H C w hs t T) (h1 : (inN p w.1 && decide (0 ≤ q)) = false → ∀ I', RQ I J I' J → I' 59 4 = 1 → K (.inl (some (.int 0))) (hp fz nn (lay Ln) I' J))
    (h2 : (inN p w.1 && decide (0 ≤ q)) = true → ∀ I', RQ I J I' J → I' 59 4 = 0 → K (.inl (some (.int (wRx w p q)))) (hp fz nn (lay Ln) I' J)) : cal (d + 3) 157 [.ref 59, .int p, .int q] (hp fz nn (lay Ln) I J) K := by
  have hw := hR.ws
  have hn8 := hw.n8
  refine call_in (Nat.le_of_ble_eq_true rfl) rfl rfl (r_157_0 hn ?_)
  rw [f9_in, hw.n, wi_in (by omega)]
  refine b2c (fun e => h1 (by rw [e]; rfl) _ (rq4 1) (at4 1)) (fun e => if_c (fun e2 => ?_) (fun e2 => h1 (by rw [decide_eq_false e2, Bool.and_false]) _ (rq4 1) (at4 1)))
  replace h2 := h2 (by rw [e, decide_eq_true e2]; rfl)
  obtain ⟨k1, k2⟩ := inN_nat (by omega) e
  obtain ⟨l1, l2⟩ := nn_nat e2
  unfold wRx at h2
  generalize p.toNatClampNeg = i at *
  generalize q.toNatClampNeg = k at *
  subst k1
  subst l1
  have h8 := hw.l8 i k2
  have m9 : (9 : Int32) * Int32.ofNat i = Int32.ofNat (9 * i) := oN_mul 9 i
  have a52 : (52 : Int32) + Int32.ofNat (9 * i) = Int32.ofNat (52 + 9 * i) := oN_add 52 (9 * i)
  replace h2 := h2 _ (rq4 0) (at4 0)
  rw [m9, a52, oN_clamp (by omega), w2_ne _ _ (by decide), hw.ln i k2]
  refine ⟨oN_vin (by omega) (by decide), if_c (fun z => ?_) (fun z => ?_)⟩
  · have z2 := (oN_lt l2 (by omega)).mp z
    rw [if_neg (Int32.not_le.mpr z)] at h2
    have e1 : Int32.ofNat (52 + 9 * i) + 1 + Int32.ofNat k = Int32.ofNat (53 + 9 * i + k) := by
      rw [oN_succ, oN_add]; congr 1; omega
    rw [e1, oN_clamp (by omega), w2_ne _ _ (by decide), hw.lt i k2 k z2]
    exact ⟨oN_vin (by omega) (by decide), h2⟩
  · rw [if_pos (Int32.not_lt.mp z)] at h2
    exact h2
theorem sr_read (hn : 74 ≤ nn) {p q : Int32} (hR : RfS I W H C w hs t T) (h1 : (inN p (2 * (W + H)) && decide (0 ≤ q)) = false → ∀ I', RQ I J I' J → I' 59 4 = 1 → K (.inl (some (.int 0))) (hp fz nn (lay Ln) I' J))
    (h2 : (inN p (2 * (W + H)) && decide (0 ≤ q)) = true → ∀ I', RQ I J I' J → I' 59 4 = 0 → K (.inl (some (.int (rdB (rdg W H C p.toNatClampNeg) q)))) (hp fz nn (lay Ln) I' J)) : cal (d + 5) 176 [.ref 59, .int p, .int q] (hp fz nn (lay Ln) I J) K := by
  have hN := hR.now
  have hb := hN.g28
  refine call_in (Nat.le_of_ble_eq_true rfl) rfl rfl (r_176_0 (d := d + 2) hn ?_)
  rw [gate_wi hN]
  refine b2c (fun e => h1 (by rw [e]; rfl) _ (rq4 1) (at4 1)) (fun e => if_c (fun e2 => ?_) (fun e2 => h1 (by rw [decide_eq_false e2, Bool.and_false]) _ (rq4 1) (at4 1)))
  replace h2 := h2 (by rw [e, decide_eq_true e2]; rfl)
  obtain ⟨k1, k2⟩ := inN_nat (by omega) e
  generalize p.toNatClampNeg = g at *
  subst k1
  have hl := rdg_len (C := C) hN.W0 hN.H0 hN.n k2
  refine sp_readsFrom (d := d) hn (hN.r4 0) k2 (fun I1 f1 r1 _ => kc_0 rfl rfl (r_176_31 (d := d + 2) hn ?_))
  replace h2 := h2 I1 ((rq4 0).tr f1.q) (by rw [f1 59 4 (by omega)]; exact at4 0)
  unfold rdB at h2
  rw [r1.n]
  obtain ⟨l1, l2⟩ := nn_nat e2
  generalize q.toNatClampNeg = k at *
  subst l1
  refine if_c (fun z => ?_) (fun z => ?_)
  · have z2 := (oN_lt l2 (by omega)).mp z
    rw [if_neg (Int32.not_le.mpr z)] at h2
    rw [r1.at_ k z2]
    refine ⟨oN_vin (by omega) (by decide), ?_⟩
    rcases gd_rdg W H C g k z2 with h3 | ⟨h3, -⟩
    · refine if_n (ph_m1 h3) ?_
      rw [ph_lb h3, Int32.add_comm, Int32.sub_add_cancel]
      exact h2
    · rw [h3] at h2 ⊢
      exact if_y rfl h2
  · rw [if_pos (Int32.not_lt.mp z)] at h2
    exact h2
theorem sr_wordsOf (hn : 74 ≤ nn) {p : Int32} (hR : RfS I W H C w hs t T) (h1 : inN p (2 * (W + H)) = false → ∀ I', RQ I J I' J → I' 59 4 = 1 → K (.inl (some (.int 0))) (hp fz nn (lay Ln) I' J))
    (h2 : inN p (2 * (W + H)) = true → ∀ I', RQ I J I' J → I' 59 4 = 0 → K (.inl (some (.int (score w (rdg W H C p.toNatClampNeg))))) (hp fz nn (lay Ln) I' J)) : cal (d + 6) 179 [.ref 59, .int p] (hp fz nn (lay Ln) I J) K := by
  have hN := hR.now
  have hb := hN.g28
  refine call_in (Nat.le_of_ble_eq_true rfl) rfl rfl (r_179_0 (d := d + 3) hn ?_)
  rw [gate_wi hN]
  refine b2c (fun e => h1 e _ (rq4 1) (at4 1)) (fun e => ?_)
  replace h2 := h2 e
  obtain ⟨k1, k2⟩ := inN_nat (by omega) e
  generalize p.toNatClampNeg = g at *
  subst k1
  exact sp_wordsFrom (d := d) hn (hN.r4 0) ((hR.ws).mono (w2_other _ _ _ (by decide))) k2 (fun I1 f1 _ _ => kc_v rfl rfl (r_179_29 (d := d + 3) hn (h2 I1 ((rq4 0).tr f1.q) (by rw [f1 59 4 (by omega)]; exact at4 0))))
theorem sr_alike (hn : 74 ≤ nn) {p : Int32} (hR : RfS I W H C w hs t T) (h1 : inN p (2 * (W + H)) = false → ∀ I', RQ I J I' J → I' 59 4 = 1 → K (.inl (some (.int 0))) (hp fz nn (lay Ln) I' J))
    (h2 : inN p (2 * (W + H)) = true → ∀ I', RQ I J I' J → I' 59 4 = 0 → K (.inl (some (.int (b2 (alikeB W H C p.toNatClampNeg))))) (hp fz nn (lay Ln) I' J)) : cal (d + 6) 181 [.ref 59, .int p] (hp fz nn (lay Ln) I J) K := by
  have hN := hR.now
  have hb := hN.g28
  refine call_in (Nat.le_of_ble_eq_true rfl) rfl rfl (r_181_0 (d := d + 3) hn ?_)
  rw [gate_wi hN]
  refine b2c (fun e => h1 e _ (rq4 1) (at4 1)) (fun e => ?_)
  replace h2 := h2 e
  obtain ⟨k1, k2⟩ := inN_nat (by omega) e
  generalize p.toNatClampNeg = g at *
  subst k1
  refine sp_isAlike (d := d) hn (hN.r4 0) k2 (fun I1 f1 => kc_v rfl rfl (r_181_25 (d := d + 3) hn ?_))
  replace h2 := h2 I1 ((rq4 0).tr f1.q) (by rw [f1 59 4 (by omega)]; exact at4 0)
  refine b2c (fun e => ?_) (fun e => ?_)
  · rw [e] at h2; exact h2
  · rw [e] at h2; exact h2
end QUE
