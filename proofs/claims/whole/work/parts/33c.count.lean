/-! ===== the reference's counts ===== -/
section CNV
variable {d nn Ln : Nat} {fz : Bool} {K : Post} {I : HI} {J : HJ} {W H : Nat} {C : Cel} {w : Wds} {hs : List Sav} {t : Nat} {T : Nat → Int32}
def cwB (k : Nat) (v : Int32) : Bool := if k = 2 then isRB v else if k = 3 then isSB v else if k = 4 then isCB v else decide (v = 35)
theorem sp_cellsWith {k : Nat} (hn : 74 ≤ nn) (hN : NowR I W H C) (h2 : 2 ≤ k) (h5 : k ≤ 5) (hK : K (.inl (some (.int (Int32.ofNat (cntB (fun c => cwB k (C c)) (W * H)))))) (hp fz nn (lay Ln) I J)) :
    cal (d + 4) 170 [.ref 59, .int (Int32.ofNat k)] (hp fz nn (lay Ln) I J) K := by
  have h49 := hN.n
  have lp : ∀ m a, a + m = W * H → EX (cal (d + 3)) 170 K 4 [some (.ref 59), some (.int (Int32.ofNat k)), some (.int (Int32.ofNat (cntB (fun c => cwB k (C c)) a))), some (.int (Int32.ofNat a)), none, none] [] (0, 0) (hp fz nn (lay Ln) I J) := by
    intro m
    induction m with
    | zero =>
      intro a ha
      obtain rfl : a = W * H := ha
      exact r_170_4 hn (if_y (by rw [hN.wh]; exact Int32.le_refl _) hK)
    | succ m ih =>
      intro a ha
      have ih := ih (a + 1) (by omega)
      have es : cntB (fun c => cwB k (C c)) (a + 1) = cntB (fun c => cwB k (C c)) a + (if cwB k (C a) = true then 1 else 0) := rfl
      rw [es] at ih
      refine r_170_4 hn (if_n (by rw [hN.wh]; exact le_n (by omega) (by omega)) (sp_at9 (d := d + 2) hn hN (by omega) (kc_v rfl rfl (r_170_17 hn ?_))))
      rw [oN_succ, oN_succ, Int32.add_zero, f9_rune, f9_in, f9_corner]
      have e2 : wi (C a) 65 90 = isSB (C a) := rfl
      rw [e2]
      have fin : ∀ b : Bool, cwB k (C a) = b → if b2 b = 0 then EX (cal (d + 3)) 170 K 4 [some (.ref 59), some (.int (Int32.ofNat k)), some (.int (Int32.ofNat (cntB (fun c => cwB k (C c)) a))), some (.int (Int32.ofNat (a + 1))), none, none] [] (0, 0) (hp fz nn (lay Ln) I J) else EX (cal (d + 3)) 170 K 4 [some (.ref 59), some (.int (Int32.ofNat k)), some (.int (Int32.ofNat (cntB (fun c => cwB k (C c)) a + 1))), some (.int (Int32.ofNat (a + 1))), none, none] [] (0, 0) (hp fz nn (lay Ln) I J) := by
        intro b hb
        rw [hb] at ih
        exact b2c (fun e => by rw [e] at ih; exact ih) (fun e => by rw [e] at ih; exact ih)
      have h4 : k = 2 ∨ k = 3 ∨ k = 4 ∨ k = 5 := by omega
      rcases h4 with rfl | rfl | rfl | rfl
      · exact if_y rfl (fin _ rfl)
      · exact if_n (by decide) (if_y rfl (fin _ rfl))
      · exact if_n (by decide) (if_n (by decide) (if_y rfl (fin _ rfl)))
      · refine if_n (by decide) (if_n (by decide) (if_n (by decide) ?_))
        have e5 : cwB 5 (C a) = decide (C a = 35) := rfl
        rw [e5] at ih
        refine if_c (fun e => ?_) (fun e => ?_)
        · rw [decide_eq_true e] at ih; exact ih
        · rw [decide_eq_false e] at ih; exact ih
  exact call_in (Nat.le_of_ble_eq_true rfl) rfl rfl (r_170_0 hn (lp _ 0 (Nat.zero_add _)))
theorem sp_bandMany {b : Bool} (hn : 74 ≤ nn) (hN : NowR I W H C) (hK : ∀ I', WkF I I' → K (.inl (some (.int (Int32.ofNat (cntB (fun g => fstB W H C g && (!b || crB (pC W H C g) (bN W H C g))) (2 * (W + H))))))) (hp fz nn (lay Ln) I' J)) :
    cal (d + 3) 171 [.ref 59, .int (b2 b)] (hp fz nn (lay Ln) I J) K := by
  have hb := hN.g28
  have lp : ∀ m a, a + m = 2 * (W + H) → ∀ I1, WkF I I1 → EX (cal (d + 1 + 1)) 171 K 4 [some (.ref 59), some (.int (b2 b)), some (.int (Int32.ofNat (cntB (fun g => fstB W H C g && (!b || crB (pC W H C g) (bN W H C g))) a))), some (.int (Int32.ofNat a))] [] (0, 0) (hp fz nn (lay Ln) I1 J) := by
    intro m
    induction m with
    | zero =>
      intro a ha I1 f1
      obtain rfl : a = 2 * (W + H) := ha
      exact r_171_4 (d := d + 1) hn (if_y (by rw [(hN.mono (f1.row (a := 60) (by decide))).gt]; exact Int32.le_refl _) (hK I1 f1))
    | succ m ih =>
      intro a ha I1 f1
      have ha' : a < 2 * (W + H) := by omega
      have hN1 := hN.mono (f1.row (a := 60) (by decide))
      have es : cntB (fun g => fstB W H C g && (!b || crB (pC W H C g) (bN W H C g))) (a + 1) = cntB (fun g => fstB W H C g && (!b || crB (pC W H C g) (bN W H C g))) a + (if (fstB W H C a && (!b || crB (pC W H C a) (bN W H C a))) = true then 1 else 0) := rfl
      refine r_171_4 (d := d + 1) hn (if_n (by rw [hN1.gt]; exact le_n (by omega) (by omega)) (sp_walks (d := d) hn hN1 ha' (fun I2 f2 k2 => kc_0 rfl rfl (r_171_17 (d := d + 1) hn ?_))))
      have ih := ih (a + 1) (by omega) I2 (f1.tr f2)
      have hN2 := hN1.mono (f2.row (a := 60) (by decide))
      rw [es] at ih
      rw [first_eq k2.en, oN_succ, oN_succ, Int32.add_zero]
      refine b2c (fun e => ?_) (fun e => b2c (fun e1 => ?_) (fun e1 => ?_))
      · rw [e, Bool.false_and] at ih; exact ih
      · rw [show (fstB W H C a && (!b || crB (pC W H C a) (bN W H C a))) = true by rw [e, e1]; rfl] at ih; exact ih
      · refine wk_crosses (d := d + 1) hn hN2 ha' k2 (kc_v rfl rfl (r_171_34 (d := d + 1) hn ?_))
        rw [oN_succ, oN_succ, Int32.add_zero]
        refine b2c (fun e2 => ?_) (fun e2 => ?_)
        · rw [show (fstB W H C a && (!b || crB (pC W H C a) (bN W H C a))) = false by rw [e, e1, e2]; rfl] at ih; exact ih
        · rw [show (fstB W H C a && (!b || crB (pC W H C a) (bN W H C a))) = true by rw [e, e1, e2]; rfl] at ih; exact ih
  exact call_in (Nat.le_of_ble_eq_true rfl) rfl rfl (r_171_0 (d := d + 1) hn (lp _ 0 (Nat.zero_add _) I (WkF.rf I)))
theorem sp_tellValue {k : Nat} (hn : 74 ≤ nn) (hR : RfS I W H C w hs t T) (h9 : k ≤ 9) (hK : ∀ I', WkF I I' → K (.inl (some (.int (nF W H C w k)))) (hp fz nn (lay Ln) I' J)) :
    cal (d + 5) 172 [.ref 59, .int (Int32.ofNat k)] (hp fz nn (lay Ln) I J) K := by
  have hN := hR.now
  have K0 := hK I (WkF.rf I)
  refine call_in (Nat.le_of_ble_eq_true rfl) rfl rfl (r_172_0 (d := d + 3) hn ?_)
  have h10 : k = 0 ∨ k = 1 ∨ k = 2 ∨ k = 3 ∨ k = 4 ∨ k = 5 ∨ k = 6 ∨ k = 7 ∨ k = 8 ∨ k = 9 := by omega
  have many : ∀ b : Bool, nF W H C w (if b then 8 else 7) = Int32.ofNat (cntB (fun g => fstB W H C g && (!b || crB (pC W H C g) (bN W H C g))) (2 * (W + H))) := by
    intro b
    cases b with
    | false =>
      show Int32.ofNat (cntB (fun g => fstB W H C g) (2 * (W + H))) = _
      congr 1
      exact cntB_congr (fun g _ => by show fstB W H C g = (fstB W H C g && true); rw [Bool.and_true])
    | true =>
      show Int32.ofNat (cntB (fun g => fstB W H C g && crB (pC W H C g) (bN W H C g)) (2 * (W + H))) = _
      congr 1
  rcases h10 with rfl | rfl | rfl | rfl | rfl | rfl | rfl | rfl | rfl | rfl
  · refine e_tsw (cx cd_172_1 rfl rfl) (if_n (by decide) (r_172_52 (d := d + 3) hn ⟨oN_vin (a := 0) (by decide) (by decide), ?_⟩))
    have : I 60 (Int32.ofNat 0).toNatClampNeg = Int32.ofNat W := hN.w
    rw [this]; exact K0
  · refine e_tsw (cx cd_172_1 rfl rfl) (if_n (by decide) (r_172_52 (d := d + 3) hn ⟨oN_vin (a := 1) (by decide) (by decide), ?_⟩))
    have : I 60 (Int32.ofNat 1).toNatClampNeg = Int32.ofNat H := hN.h
    rw [this]; exact K0
  · exact e_tsw (cx cd_172_1 rfl rfl) (if_n (by decide) (r_172_59 (d := d + 3) hn (sp_cellsWith (d := d) (k := 2) hn hN (by decide) (by decide) (kc_v rfl rfl (r_172_64 (d := d + 3) hn K0)))))
  · exact e_tsw (cx cd_172_1 rfl rfl) (if_n (by decide) (r_172_59 (d := d + 3) hn (sp_cellsWith (d := d) (k := 3) hn hN (by decide) (by decide) (kc_v rfl rfl (r_172_64 (d := d + 3) hn K0)))))
  · exact e_tsw (cx cd_172_1 rfl rfl) (if_n (by decide) (r_172_59 (d := d + 3) hn (sp_cellsWith (d := d) (k := 4) hn hN (by decide) (by decide) (kc_v rfl rfl (r_172_64 (d := d + 3) hn K0)))))
  · exact e_tsw (cx cd_172_1 rfl rfl) (if_n (by decide) (r_172_59 (d := d + 3) hn (sp_cellsWith (d := d) (k := 5) hn hN (by decide) (by decide) (kc_v rfl rfl (r_172_64 (d := d + 3) hn K0)))))
  · refine e_tsw (cx cd_172_1 rfl rfl) (if_n (by decide) (r_172_65 (d := d + 3) hn ?_))
    rw [hN.gt]; exact K0
  · refine e_tsw (cx cd_172_1 rfl rfl) (if_n (by decide) (r_172_70 (d := d + 3) hn (sp_bandMany (d := d + 1) (b := false) hn hN (fun I1 f1 => kc_v rfl rfl (r_172_75 (d := d + 3) hn ?_)))))
    have := hK I1 f1
    rw [show nF W H C w 7 = _ from many false] at this
    exact this
  · refine e_tsw (cx cd_172_1 rfl rfl) (if_n (by decide) (r_172_76 (d := d + 3) hn (sp_bandMany (d := d + 1) (b := true) hn hN (fun I1 f1 => kc_v rfl rfl (r_172_81 (d := d + 3) hn ?_)))))
    have := hK I1 f1
    rw [show nF W H C w 8 = _ from many true] at this
    exact this
  · refine e_tsw (cx cd_172_1 rfl rfl) (if_y (by decide) (r_172_82 (d := d + 3) hn ?_))
    have := hR.row.n
    rw [Nat.zero_add] at this
    rw [this]; exact K0
end CNV
