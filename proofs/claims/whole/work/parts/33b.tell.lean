/-! ===== the reference's facts ===== -/
section TEL
variable {d nn Ln : Nat} {fz : Bool} {K : Post} {I : HI} {J : HJ} {W H : Nat} {C : Cel} {g : Nat} {w : Wds} {hs : List Sav} {t : Nat} {T : Nat → Int32}
theorem first_eq (h : I 59 10 = bE W H C g) : f_X9_isFirst (Int32.ofNat g) I = b2 (fstB W H C g) := by
  unfold f_X9_isFirst fstB
  rw [h]
  by_cases e : bE W H C g = -1
  · rw [if_pos e, decide_eq_true e]; rfl
  · rw [if_neg e, decide_eq_false e, Bool.false_or]
    by_cases e2 : bE W H C g < Int32.ofNat g
    · rw [if_pos e2, decide_eq_false (Int32.not_le.mpr e2)]; rfl
    · rw [if_neg e2, decide_eq_true (Int32.not_lt.mp e2)]; rfl
theorem b2_or1 (b c : Bool) (h : b = false) : b2 (b || c) = b2 c := by rw [h, Bool.false_or]
theorem sp_crosses (hn : 74 ≤ nn) {i : Nat} {f : Nat → Nat} (hi : i ≤ 98) (hf : ∀ k, k < i → f k < 49) (h9 : I 59 9 = Int32.ofNat i) (h64 : ∀ k, k < i → I 64 k = Int32.ofNat (f k)) (hK : K (.inl (some (.int (b2 (crB f i))))) (hp fz nn (lay Ln) I J)) :
    cal (d + 1) 161 [.ref 59] (hp fz nn (lay Ln) I J) K := by
  have lp2 : ∀ a, a < i → EX (cal d) 161 K 4 [some (.ref 59), some (.int (b2 (crB f (a + 1)))), some (.int (Int32.ofNat (a + 1))), none] [] (0, 0) (hp fz nn (lay Ln) I J) →
      ∀ m k, k + m = a → EX (cal d) 161 K 14 [some (.ref 59), some (.int (b2 (crB f a || decide (0 < cntB (fun j => decide (f j = f a)) k)))), some (.int (Int32.ofNat a)), some (.int (Int32.ofNat k))] [] (0, 0) (hp fz nn (lay Ln) I J) := by
    intro a ha hx m
    induction m with
    | zero =>
      intro k hk
      obtain rfl : k = a := hk
      refine r_161_14 hn (if_y (Int32.le_refl _) ?_)
      rw [oN_succ]; exact hx
    | succ m ih =>
      intro k hk
      have ih := ih (k + 1) (by omega)
      have es : cntB (fun j => decide (f j = f a)) (k + 1) = cntB (fun j => decide (f j = f a)) k + (if decide (f k = f a) = true then 1 else 0) := rfl
      refine r_161_14 hn (if_n (le_n (by omega) (by omega)) ?_)
      rw [oN_succ, oN_clamp (by omega), oN_clamp (by omega), h64 a ha, h64 k (by omega)]
      rw [es] at ih
      refine b2c (fun e => ⟨oN_vin (by omega) (by decide), oN_vin (by omega) (by decide), if_c (fun e2 => ?_) (fun e2 => ?_)⟩) (fun e => ?_)
      · have e3 := (oN_eq (by have := hf a ha; omega) (by have := hf k (by omega); omega)).mp e2
        rw [decide_eq_true e3.symm, if_pos rfl, decide_eq_true (Nat.succ_pos _), Bool.or_true] at ih
        exact ih
      · have e3 : ¬ f k = f a := fun z => e2 (by rw [z])
        rw [decide_eq_false e3, if_neg Bool.false_ne_true, Nat.add_zero, e] at ih
        exact ih
      · have : (crB f a || decide (0 < cntB (fun j => decide (f j = f a)) k + (if decide (f k = f a) = true then 1 else 0))) = true := by
          rw [Bool.or_eq_true] at e ⊢
          rcases e with e | e
          · exact Or.inl e
          · have := decide_eq_true_iff.mp e
            exact Or.inr (decide_eq_true (by omega))
        rw [this] at ih
        exact ih
  have lp : ∀ m a, a + m = i → EX (cal d) 161 K 4 [some (.ref 59), some (.int (b2 (crB f a))), some (.int (Int32.ofNat a)), none] [] (0, 0) (hp fz nn (lay Ln) I J) := by
    intro m
    induction m with
    | zero =>
      intro a ha
      obtain rfl : a = i := ha
      exact r_161_4 hn (if_y (by rw [h9]; exact Int32.le_refl _) ⟨b2_01 _, hK⟩)
    | succ m ih =>
      intro a ha
      refine r_161_4 hn (if_n (by rw [h9]; exact le_n (by omega) (by omega)) ?_)
      have := lp2 a (by omega) (ih (a + 1) (by omega)) a 0 (Nat.zero_add _)
      rw [show (crB f a || decide (0 < cntB (fun j => decide (f j = f a)) 0)) = crB f a by rw [show cntB (fun j => decide (f j = f a)) 0 = 0 from rfl, decide_eq_false (Nat.lt_irrefl 0), Bool.or_false]] at this
      exact this
  exact call_in (Nat.le_of_ble_eq_true rfl) rfl rfl (r_161_0 hn (lp i 0 (Nat.zero_add _)))
theorem sp_runesOn (hn : 74 ≤ nn) (hN : NowR I W H C) (hg : g < 2 * (W + H)) (hk : Wk W H C I g) (hK : K (.inl (some (.int (Int32.ofNat (cntB (fun j => isRB (C (pC W H C g j))) (bN W H C g)))))) (hp fz nn (lay Ln) I J)) :
    cal (d + 4) 162 [.ref 59] (hp fz nn (lay Ln) I J) K := by
  have h49 := hN.n
  have hbn := bN_le (C := C) hN.W0 hN.H0 hg
  have lp : ∀ m a, a + m = bN W H C g → EX (cal (d + 3)) 162 K 4 [some (.ref 59), some (.int (Int32.ofNat (cntB (fun j => isRB (C (pC W H C g j))) a))), some (.int (Int32.ofNat a))] [] (0, 0) (hp fz nn (lay Ln) I J) := by
    intro m
    induction m with
    | zero =>
      intro a ha
      obtain rfl : a = bN W H C g := ha
      exact r_162_4 hn (if_y (by rw [hk.wi.st]; exact Int32.le_refl _) hK)
    | succ m ih =>
      intro a ha
      have ih := ih (a + 1) (by omega)
      have es : cntB (fun j => isRB (C (pC W H C g j))) (a + 1) = cntB (fun j => isRB (C (pC W H C g j))) a + (if isRB (C (pC W H C g a)) = true then 1 else 0) := rfl
      rw [es] at ih
      refine r_162_4 hn (if_n (by rw [hk.wi.st]; exact le_n (by omega) (by omega)) ⟨oN_vin (by omega) (by decide), ?_⟩)
      rw [oN_clamp (by omega), hk.wi.pa a (by omega)]
      refine sp_at9 (d := d + 2) hn hN (pC_lt hN.W0 hN.H0 hg (by omega)) (kc_v rfl rfl (r_162_23 hn ?_))
      rw [f9_rune, oN_succ, oN_succ, Int32.add_zero]
      refine b2c (fun e => ?_) (fun e => ?_)
      · rw [e] at ih; exact ih
      · rw [e] at ih; exact ih
  exact call_in (Nat.le_of_ble_eq_true rfl) rfl rfl (r_162_0 hn (lp _ 0 (Nat.zero_add _)))
theorem wk_crosses (hn : 74 ≤ nn) (hN : NowR I W H C) (hg : g < 2 * (W + H)) (hk : Wk W H C I g) (hK : K (.inl (some (.int (b2 (crB (pC W H C g) (bN W H C g)))))) (hp fz nn (lay Ln) I J)) : cal (d + 1) 161 [.ref 59] (hp fz nn (lay Ln) I J) K := by
  have h49 := hN.n
  have hbn := bN_le (C := C) hN.W0 hN.H0 hg
  exact sp_crosses hn (by omega) (fun k hk' => by have := pC_lt (C := C) hN.W0 hN.H0 hg hk'; omega) hk.wi.st hk.wi.pa hK
theorem sp_tellBand {k : Nat} (hn : 74 ≤ nn) (hN : NowR I W H C) (hg : g < 2 * (W + H)) (h6 : k ≤ 6) (hK : ∀ I', WkF I I' → K (.inl (some (.int (bF W H C g k)))) (hp fz nn (lay Ln) I' J)) :
    cal (d + 5) 164 [.ref 59, .int (Int32.ofNat g), .int (Int32.ofNat k)] (hp fz nn (lay Ln) I J) K := by
  have h49 := hN.n
  have hb := hN.g28
  have hbn := bN_le (C := C) hN.W0 hN.H0 hg
  have hb1 : 1 ≤ bN W H C g := by unfold bN; omega
  refine call_in (Nat.le_of_ble_eq_true rfl) rfl rfl (r_164_0 (d := d + 3) hn (sp_walks (d := d + 2) hn hN hg (fun I1 f1 k1 => kc_0 rfl rfl (r_164_5 (d := d + 3) hn ?_))))
  replace hK := hK I1 f1
  have hN1 := hN.mono (f1.row (a := 60) (by decide))
  have h7 : k = 0 ∨ k = 1 ∨ k = 2 ∨ k = 3 ∨ k = 4 ∨ k = 5 ∨ k = 6 := by omega
  rcases h7 with rfl | rfl | rfl | rfl | rfl | rfl | rfl
  · refine e_tsw (cx cd_164_6 rfl rfl) (if_n (by decide) (r_164_44 (d := d + 3) hn ?_))
    rw [first_eq k1.en, k1.en]
    have hK : K (.inl (some (.int (bFr W H C g)))) (hp fz nn (lay Ln) I1 J) := hK
    unfold bFr at hK
    refine b2c (fun e => ?_) (fun e => ?_)
    · have e1 : ¬ (bE W H C g = -1 ∨ Int32.ofNat g ≤ bE W H C g) := fun z => by rw [fstB_iff.mpr z] at e; cases e
      have e2 : bE W H C g < Int32.ofNat g := Int32.not_le.mp (fun z => e1 (Or.inr z))
      rw [if_neg (fun z => e1 (Or.inl z)), if_pos e2] at hK
      exact hK
    · have e1 := fstB_iff.mp e
      by_cases z : bE W H C g = -1
      · rw [if_pos z] at hK; exact hK
      · rw [if_neg z, if_neg (Int32.not_lt.mpr (e1.resolve_left z))] at hK; exact hK
  · refine e_tsw (cx cd_164_6 rfl rfl) (if_n (by decide) (r_164_61 (d := d + 3) hn ?_))
    rw [k1.en]; exact hK
  · refine e_tsw (cx cd_164_6 rfl rfl) (if_n (by decide) (r_164_66 (d := d + 3) hn ?_))
    have e1 : Int32.ofNat (bN W H C g) - 1 = Int32.ofNat (bN W H C g - 1) := oN_sub (b := 1) (by omega)
    rw [k1.wi.st, e1, oN_clamp (by omega), k1.wi.pa _ (by omega)]
    exact ⟨oN_vin (by omega) (by decide), hK⟩
  · refine e_tsw (cx cd_164_6 rfl rfl) (if_n (by decide) (r_164_78 (d := d + 3) hn ?_))
    rw [k1.wi.st]; exact hK
  · refine e_tsw (cx cd_164_6 rfl rfl) (if_n (by decide) (r_164_83 (d := d + 3) hn ?_))
    rw [k1.wi.tn]; exact hK
  · exact e_tsw (cx cd_164_6 rfl rfl) (if_n (by decide) (r_164_88 (d := d + 3) hn (sp_runesOn (d := d) hn hN1 hg k1 (kc_v rfl rfl (r_164_92 (d := d + 3) hn hK)))))
  · refine e_tsw (cx cd_164_6 rfl rfl) (if_y (by decide) (r_164_93 (d := d + 3) hn (wk_crosses (d := d + 3) hn hN1 hg k1 (kc_v rfl rfl (r_164_97 (d := d + 3) hn ?_)))))
    have hK : K (.inl (some (.int (b2 (crB (pC W H C g) (bN W H C g)))))) (hp fz nn (lay Ln) I1 J) := hK
    refine b2c (fun e => ?_) (fun e => ?_)
    · rw [e] at hK; exact hK
    · rw [e] at hK; exact hK
/-- the bands that enter a cell -/
theorem sp_entered {c k : Nat} (hn : 74 ≤ nn) (hN : NowR I W H C) (hc : c < W * H) (hk1 : 1 ≤ k) (hk3 : k ≤ 3) (hK : ∀ I', WkF I I' → K (.inl (some (.int (cF W H C c k)))) (hp fz nn (lay Ln) I' J)) :
    cal (d + 3) 167 [.ref 59, .int (Int32.ofNat c), .int (Int32.ofNat k)] (hp fz nn (lay Ln) I J) K := by
  have h49 := hN.n
  have hb := hN.g28
  have hW := hN.W0
  have hH := hN.H0
  let p : Nat := if k = 1 then 1 else 0
  have low_s : ∀ G, lowB W H C p c (G + 1) = if lowB W H C p c G = -1 ∧ fstB W H C G = true ∧ eIn W H C p c G (bN W H C G) = true then Int32.ofNat G else lowB W H C p c G := fun _ => rfl
  have ent_s : ∀ G, entN W H C c (G + 1) = entN W H C c G + (if fstB W H C G then cntB (fun i => decide (pC W H C G i = c)) (bN W H C G) else 0) := fun _ => rfl
  have lp2 : ∀ G, G < 2 * (W + H) → ∀ I1, WkF I I1 → Wk W H C I1 G → fstB W H C G = true → EX (cal (d + 1 + 1)) 167 K 8 [some (.ref 59), some (.int (Int32.ofNat c)), some (.int (Int32.ofNat k)), some (.int (lowB W H C p c (G + 1))), some (.int (Int32.ofNat (entN W H C c (G + 1)))), some (.int (Int32.ofNat (G + 1))), none] [] (0, 0) (hp fz nn (lay Ln) I1 J) →
      ∀ m i, i + m = bN W H C G → EX (cal (d + 1 + 1)) 167 K 26 [some (.ref 59), some (.int (Int32.ofNat c)), some (.int (Int32.ofNat k)), some (.int (if lowB W H C p c G = -1 ∧ eIn W H C p c G i = true then Int32.ofNat G else lowB W H C p c G)), some (.int (Int32.ofNat (entN W H C c G + cntB (fun i => decide (pC W H C G i = c)) i))), some (.int (Int32.ofNat G)), some (.int (Int32.ofNat i))] [] (0, 0) (hp fz nn (lay Ln) I1 J) := by
    intro G hG I1 f1 k1 hf hx m
    have hbn := bN_le (C := C) hW hH hG
    induction m with
    | zero =>
      intro i hi
      obtain rfl : i = bN W H C G := hi
      rw [low_s, ent_s, hf, if_pos rfl] at hx
      refine r_167_26 (d := d + 1) hn (if_y (by rw [k1.wi.st]; exact Int32.le_refl _) ?_)
      rw [oN_succ]
      simp only [true_and] at hx
      exact hx
    | succ m ih =>
      intro i hi
      have ih := ih (i + 1) (by omega)
      have ec : cntB (fun i => decide (pC W H C G i = c)) (i + 1) = cntB (fun i => decide (pC W H C G i = c)) i + (if decide (pC W H C G i = c) = true then 1 else 0) := rfl
      have ee : eIn W H C p c G (i + 1) = (eIn W H C p c G i || (decide (pC W H C G i = c) && decide (pD4 W H C G i % 2 = p))) := rfl
      have hpc := pC_lt (C := C) hW hH hG (show i < bN W H C G by omega)
      refine r_167_26 (d := d + 1) hn (if_n (by rw [k1.wi.st]; exact le_n (by omega) (by omega)) ?_)
      rw [first_eq k1.en, hf]
      refine if_n (by decide) ⟨oN_vin (by omega) (by decide), ?_⟩
      rw [oN_clamp (by omega), k1.wi.pa i (by omega), k1.wi.ir i (by omega), oN_succ, oN_succ]
      rw [ec, ee] at ih
      refine if_c (fun e => ?_) (fun e => ?_)
      · have e := (oN_eq (by omega) (by omega)).mp e
        rw [decide_eq_true e, if_pos rfl, Bool.true_and] at ih
        have up : ∀ b : Bool, (∀ x : Int32, (if lowB W H C p c G = -1 ∧ (eIn W H C p c G i || b) = true then Int32.ofNat G else lowB W H C p c G) = x → (if lowB W H C p c G = -1 ∧ eIn W H C p c G i = true then Int32.ofNat G else lowB W H C p c G) = -1 → x = if b = true then Int32.ofNat G else (if lowB W H C p c G = -1 ∧ eIn W H C p c G i = true then Int32.ofNat G else lowB W H C p c G)) := by
          intro b x hx1 hx2
          by_cases q : lowB W H C p c G = -1 ∧ eIn W H C p c G i = true
          · rw [if_pos q] at hx2
            exact absurd hx2 (g_ne (by omega))
          · rw [if_neg q] at hx2 ⊢
            have q2 : eIn W H C p c G i = false := by
              cases y : eIn W H C p c G i with
              | true => exact absurd ⟨hx2, y⟩ q
              | false => rfl
            rw [q2, Bool.false_or] at hx1
            rw [← hx1]
            cases b with
            | true => rw [if_pos ⟨hx2, rfl⟩, if_pos rfl]
            | false => rw [if_neg (fun z => by cases z.2), if_neg Bool.false_ne_true]
        have keep : ∀ b : Bool, ¬ (if lowB W H C p c G = -1 ∧ eIn W H C p c G i = true then Int32.ofNat G else lowB W H C p c G) = -1 → (if lowB W H C p c G = -1 ∧ (eIn W H C p c G i || b) = true then Int32.ofNat G else lowB W H C p c G) = (if lowB W H C p c G = -1 ∧ eIn W H C p c G i = true then Int32.ofNat G else lowB W H C p c G) := by
          intro b hx
          by_cases q : lowB W H C p c G = -1
          · have q2 : eIn W H C p c G i = true := by
              cases y : eIn W H C p c G i with
              | true => rfl
              | false => rw [if_neg (fun z => by rw [y] at z; cases z.2)] at hx; exact absurd q hx
            rw [q2, Bool.true_or]
          · rw [if_neg (fun z => q z.1), if_neg (fun z => q z.1)]
        refine if_c (fun e1 => ?_) (fun e1 => ?_)
        · have eu := up (decide (pD4 W H C G i % 2 = p)) _ rfl e1
          rw [eu] at ih
          by_cases q : k = 1
          · have hp1 : p = 1 := if_pos q
            rw [show decide (pD4 W H C G i % 2 = p) = decide (pD4 W H C G i % 2 = 1) by rw [hp1]] at ih
            refine if_y (by rw [q]; rfl) (if_c (fun e2 => ?_) (fun e2 => ?_))
            · have e3 := (b2_1 _).mp e2
              rw [e3, if_pos rfl] at ih
              exact ih
            · have e3 : decide (pD4 W H C G i % 2 = 1) = false := by
                cases y : decide (pD4 W H C G i % 2 = 1) with
                | true => exact absurd ((b2_1 _).mpr y) e2
                | false => rfl
              rw [e3, if_neg Bool.false_ne_true] at ih
              exact ih
          · have hp0 : p = 0 := if_neg q
            rw [show decide (pD4 W H C G i % 2 = p) = decide (pD4 W H C G i % 2 = 0) by rw [hp0]] at ih
            refine if_n (fun z => q ?_) (if_c (fun e2 => ?_) (fun e2 => ?_))
            · exact (oN_eq (b := 1) (by omega) (by decide)).mp z
            · have e3 := decide_eq_false_iff_not.mp ((b2_0 _).mp e2)
              rw [decide_eq_true (show pD4 W H C G i % 2 = 0 by omega), if_pos rfl] at ih
              exact ih
            · have e3 : pD4 W H C G i % 2 = 1 := by
                cases y : decide (pD4 W H C G i % 2 = 1) with
                | true => exact decide_eq_true_iff.mp y
                | false => exact absurd ((b2_0 _).mpr y) e2
              rw [decide_eq_false (show ¬ pD4 W H C G i % 2 = 0 by omega), if_neg Bool.false_ne_true] at ih
              exact ih
        · rw [keep _ e1] at ih
          exact ih
      · have e3 : ¬ pC W H C G i = c := fun z => e (by rw [z])
        rw [decide_eq_false e3, if_neg Bool.false_ne_true, Nat.add_zero, Bool.false_and, Bool.or_false] at ih
        exact ih
  have lp : ∀ m G, G + m = 2 * (W + H) → ∀ I1, WkF I I1 → EX (cal (d + 1 + 1)) 167 K 8 [some (.ref 59), some (.int (Int32.ofNat c)), some (.int (Int32.ofNat k)), some (.int (lowB W H C p c G)), some (.int (Int32.ofNat (entN W H C c G))), some (.int (Int32.ofNat G)), none] [] (0, 0) (hp fz nn (lay Ln) I1 J) := by
    intro m
    induction m with
    | zero =>
      intro G hG I1 f1
      obtain rfl : G = 2 * (W + H) := hG
      have hN1 := hN.mono (f1.row (a := 60) (by decide))
      refine r_167_8 (d := d + 1) hn (if_y (by rw [hN1.gt]; exact Int32.le_refl _) ?_)
      replace hK := hK I1 f1
      have h3 : k = 1 ∨ k = 2 ∨ k = 3 := by omega
      rcases h3 with rfl | rfl | rfl
      · exact if_n (by decide) hK
      · exact if_n (by decide) hK
      · exact if_y rfl hK
    | succ m ih =>
      intro G hG I1 f1
      have hG' : G < 2 * (W + H) := by omega
      have hN1 := hN.mono (f1.row (a := 60) (by decide))
      refine r_167_8 (d := d + 1) hn (if_n (by rw [hN1.gt]; exact le_n (by omega) (by omega)) (sp_walks (d := d) hn hN1 hG' (fun I2 f2 k2 => kc_0 rfl rfl (r_167_23 (d := d + 1) hn ?_))))
      have ih := ih (G + 1) (by omega) I2 (f1.tr f2)
      cases hf : fstB W H C G with
      | true =>
        have := lp2 G hG' I2 (f1.tr f2) k2 hf ih (bN W H C G) 0 (Nat.zero_add _)
        rw [if_neg (fun z => by have h2 : (false : Bool) = true := z.2; cases h2), show cntB (fun i => decide (pC W H C G i = c)) 0 = 0 from rfl, Nat.add_zero] at this
        exact this
      | false =>
        rw [low_s, ent_s, hf, if_neg (fun z => by cases z.2.1), if_neg Bool.false_ne_true, Nat.add_zero] at ih
        have hb1 : 1 ≤ bN W H C G := by unfold bN; omega
        have hbn := bN_le (C := C) hW hH hG'
        refine r_167_26 (d := d + 1) hn (if_n (by rw [k2.wi.st]; exact le_n (b := 0) (by omega) (by omega)) ?_)
        rw [first_eq k2.en, hf, oN_succ]
        exact if_y rfl ih
  exact call_in (Nat.le_of_ble_eq_true rfl) rfl rfl (r_167_0 (d := d + 1) hn (lp _ 0 (Nat.zero_add _) I (WkF.rf I)))
theorem letter_eq (v : Int32) : f_X8_letterOf v = if b2 (isRB v) = 0 then -1 else (if b2 (isSB v) = 0 then v - 97 else v - 65) := by
  unfold f_X8_letterOf
  rw [f_letter, f_shared]
  by_cases h1 : isLB v = true
  · have h2 : isSB v = false := by
      unfold isLB at h1
      rw [Bool.and_eq_true] at h1
      have a1 := decide_eq_true_iff.mp h1.1
      unfold isSB
      rw [decide_eq_false (show ¬ v ≤ 90 from Int32.not_le.mpr (Int32.lt_of_lt_of_le (by decide) a1)), Bool.and_false]
    have h3 : isRB v = true := by unfold isRB; rw [h1]; rfl
    rw [h1, h2, h3, if_neg (by decide), if_neg (by decide), if_pos (show b2 false = 0 from rfl)]
  · have h1' : isLB v = false := by simpa using h1
    rw [h1', if_pos (show b2 false = 0 from rfl)]
    cases h2 : isSB v with
    | true =>
      have h3 : isRB v = true := by unfold isRB; rw [h2, Bool.or_true]
      rw [h3, if_neg (by decide), if_neg (by decide), if_neg (by decide)]
    | false =>
      have h3 : isRB v = false := by unfold isRB; rw [h1', h2]; rfl
      rw [h3, if_pos (show b2 false = 0 from rfl), if_pos (show b2 false = 0 from rfl)]
theorem sp_tellCell {c k : Nat} (hn : 74 ≤ nn) (hN : NowR I W H C) (hc : c < W * H) (hk4 : k ≤ 4) (hK : ∀ I', WkF I I' → K (.inl (some (.int (cF W H C c k)))) (hp fz nn (lay Ln) I' J)) :
    cal (d + 4) 168 [.ref 59, .int (Int32.ofNat c), .int (Int32.ofNat k)] (hp fz nn (lay Ln) I J) K := by
  have h49 := hN.n
  refine call_in (Nat.le_of_ble_eq_true rfl) rfl rfl (r_168_0 hn (sp_at9 (d := d + 2) hn hN hc (kc_v rfl rfl (r_168_5 hn ?_))))
  by_cases h0 : k = 0
  · subst h0
    exact if_y rfl (hK I (WkF.rf I))
  · refine if_n (fun z => h0 ((oN_eq (b := 0) (by omega) (by decide)).mp z)) ?_
    by_cases h4 : k = 4
    · subst h4
      have hK : K (.inl (some (.int (f_X8_letterOf (C c))))) (hp fz nn (lay Ln) I J) := hK I (WkF.rf I)
      rw [letter_eq] at hK
      refine if_y (Int32.le_refl _) ?_
      rw [f9_rune, f9_in]
      have e2 : wi (C c) 65 90 = isSB (C c) := rfl
      rw [e2]
      refine b2c (fun e => ?_) (fun e => ?_)
      · rw [e, if_pos (show b2 false = 0 from rfl)] at hK; exact hK
      · rw [e, if_neg (show ¬ b2 true = 0 by decide)] at hK
        refine b2c (fun e3 => ?_) (fun e3 => ?_)
        · rw [e3, if_pos (show b2 false = 0 from rfl)] at hK; exact hK
        · rw [e3, if_neg (show ¬ b2 true = 0 by decide)] at hK; exact hK
    · refine if_n (le_n (a := 4) (by omega) (by decide)) ?_
      exact sp_entered (d := d) hn hN hc (by omega) (by omega) (fun I' f' => kc_v rfl rfl (r_168_25 hn (hK I' f')))
end TEL
