/-! ===== the reference's changes: saved, undone, emptied, set, turned ===== -/
theorem oN_div {a b : Nat} (ha : a < 2 ^ 31) (hb : b < 2 ^ 31) : Int32.ofNat a / Int32.ofNat b = Int32.ofNat (a / b) := by
  rw [← Int32.toInt_inj, Int32.toInt_div, oN_toInt ha, oN_toInt hb, oN_toInt (Nat.lt_of_le_of_lt (Nat.div_le_self a b) ha)]
  rw [show Int.tdiv (a : Int) (b : Int) = ((a / b : Nat) : Int) from rfl]
  have h := Nat.div_le_self a b
  generalize a / b = c at *
  rw [Int.bmod_eq_of_le] <;> omega
theorem oN_mod {a b : Nat} (ha : a < 2 ^ 31) (hb : b < 2 ^ 31) : Int32.ofNat a - Int32.ofNat a / Int32.ofNat b * Int32.ofNat b = Int32.ofNat (a % b) := by
  rw [oN_div ha hb, oN_mul, oN_sub (by rw [Nat.mul_comm]; exact Nat.mul_div_le a b)]
  congr 1
  have := Nat.div_add_mod a b
  rw [Nat.mul_comm b] at this
  omega
theorem oN_ne0 {b : Nat} (hb : b < 2 ^ 31) (h : 0 < b) : ¬ Int32.ofNat b = 0 := fun e => by
  have := (oN_eq (b := 0) hb (by decide)).mp e
  omega
/-- what a save of the reference changes -/
def SvF (I I' : HI) : Prop := ∀ a k, ¬ (a = 61 ∨ (a = 59 ∧ k = 3)) → I' a k = I a k
theorem SvF.rf (I : HI) : SvF I I := fun _ _ _ => rfl
theorem SvF.row {I I' : HI} (h : SvF I I') {a : Nat} (ha : a ≠ 59 ∧ a ≠ 61) : I' a = I a := by
  funext k
  exact h a k (by omega)
theorem SvF.f {I I' : HI} {J : HJ} (h : SvF I I') : RF I J I' J := ⟨fun a ha => h.row (by omega), fun _ _ => rfl⟩
/-- a row with another stone -/
theorem RowR.stone {f f' : Nat → Int32} {W H W' H' : Nat} {C C' : Cel} {w : Wds} (h : RowR f 0 ((W, H, C), w)) (hw : f' 0 = Int32.ofNat W') (hh : f' 1 = Int32.ofNat H') (h1 : 2 ≤ W' ∧ W' ≤ 7) (h2 : 2 ≤ H' ∧ H' ≤ 7) (hc : ∀ c, c < W' * H' → f' (2 + c) = C' c) (hr : ∀ k, 51 ≤ k → f' k = f k) : RowR f' 0 ((W', H', C'), w) := by
  refine RowR.mk hw (by rw [Nat.zero_add]; exact hh) h1 h2 (fun c h => by rw [Nat.zero_add]; exact hc c h) ?_ h.n8 (fun i hi => ?_) h.l8 (fun i hi k hk => ?_)
  · rw [hr _ (by omega)]; exact h.n
  · rw [hr _ (by omega)]; exact h.ln i hi
  · rw [hr _ (by omega)]; exact h.lt i hi k hk
section CHG
variable {d nn Ln : Nat} {fz : Bool} {K : Post} {I : HI} {J : HJ} {W H : Nat} {C : Cel} {w : Wds} {hs : List Sav} {t : Nat} {T : Nat → Int32}
theorem sp_saves (hn : 74 ≤ nn) (hR : RfS I W H C w hs t T) (hK : ∀ I', SvF I I' → RfS I' W H C w ((((W, H, C), w) :: hs).take 4) t T → K (.inl none) (hp fz nn (lay Ln) I' J)) : cal (d + 1) 134 [.ref 59] (hp fz nn (lay Ln) I J) K := by
  have h4 := hR.s4
  have e3 : ∀ s k : Nat, (124 : Int32) * Int32.ofNat s + Int32.ofNat k = Int32.ofNat (124 * s + k) := fun s k => by
    rw [show (124 : Int32) * Int32.ofNat s = Int32.ofNat (124 * s) from oN_mul 124 s, oN_add]
  -- the second loop
  have lp2 : ∀ s I1, s ≤ 3 → s + 1 = ((((W, H, C), w) :: hs).take 4).length → SvF I I1 → I1 59 3 = Int32.ofNat s → (∀ j v, j < s → hs[j]? = some v → RowR (I1 61) (124 * (s - 1 - j)) v) →
      ∀ m k, k + m = 124 → ∀ I2, SvF I I2 → I2 59 3 = Int32.ofNat s → (∀ q, q < 124 * s → I2 61 q = I1 61 q) → (∀ q, q < k → I2 61 (124 * s + q) = I 60 q) → EX (cal d) 134 K 50 [some (.ref 59), some (.int (Int32.ofNat k))] [] (0, 0) (hp fz nn (lay Ln) I2 J) := by
    intro s I1 hs3 hlen f1 g1 r1 m
    induction m with
    | zero =>
      intro k hk I2 f2 g2 c2 d2
      obtain rfl : k = 124 := hk
      refine r_134_50 hn (if_y (Int32.le_refl _) ?_)
      rw [g2, oN_succ]
      have f3 : ∀ a k, ¬ (a = 59 ∧ k = 3) → (w2 I2 59 3 (Int32.ofNat (s + 1))) a k = I2 a k := fun a k hq => by rw [w2_at, if_neg hq]
      refine hK _ (fun a k hq => by rw [f3 a k (by omega)]; exact f2 a k hq) (RfS.mk ?_ ?_ ?_ (fun j v hv => ?_) ?_ hR.t60 (fun k hk => ?_))
      · have : (w2 I2 59 3 (Int32.ofNat (s + 1))) 60 = I 60 := by
          funext k
          rw [f3 60 k (by omega)]; exact f2 60 k (by omega)
        rw [this]; exact hR.row
      · rw [w2_at, if_pos ⟨rfl, rfl⟩, ← hlen]
      · rw [← hlen]; omega
      · rw [← hlen]
        have hj : j < s + 1 := by
          have := (List.getElem?_eq_some_iff.mp hv).1
          omega
        have e61 : (w2 I2 59 3 (Int32.ofNat (s + 1))) 61 = I2 61 := w2_other _ _ _ (by decide)
        rw [e61]
        rw [List.getElem?_take, if_pos (show j < 4 by omega)] at hv
        cases j with
        | zero =>
          cases hv
          refine hR.row.mono (fun k hk => ?_)
          rw [show s + 1 - 1 - 0 = s by omega, Nat.zero_add]
          exact d2 k hk
        | succ j =>
          rw [List.getElem?_cons_succ] at hv
          refine (r1 j v (by omega) hv).mono (fun k hk => ?_)
          rw [show s + 1 - 1 - (j + 1) = s - 1 - j by omega]
          exact c2 _ (by
            have : 124 * (s - 1 - j) + 124 ≤ 124 * s := by omega
            omega)
      · rw [f3 59 6 (by decide), f2 59 6 (by omega)]; exact hR.tn
      · rw [f3 63 k (by omega), f2 63 k (by omega)]; exact hR.ta k hk
    | succ m ih =>
      intro k hk I2 f2 g2 c2 d2
      refine r_134_50 hn (if_n (le_n (a := 124) (by omega) (by decide)) ?_)
      rw [g2, e3, oN_clamp (by omega), oN_clamp (by omega), oN_succ]
      refine ⟨oN_vin (by omega) (by decide), oN_vin (by omega) (by decide), ih (k + 1) (by omega) _ (fun a q hq => ?_) ?_ (fun q hq => ?_) (fun q hq => ?_)⟩
      · rw [w2_at, if_neg (by omega)]; exact f2 a q hq
      · rw [w2_ne _ _ (by decide)]; exact g2
      · rw [w2_at, if_neg (by omega)]; exact c2 q hq
      · rw [w2_at]
        by_cases e : q = k
        · subst e; rw [if_pos ⟨rfl, rfl⟩]; exact f2 60 q (by omega)
        · rw [if_neg (by omega)]; exact d2 q (by omega)
  have lp1 : hs.length = 4 → ∀ m k, k + m = 372 → ∀ I2, SvF I I2 → I2 59 3 = 4 → (∀ q, q < k → I2 61 q = I 61 (q + 124)) → (∀ q, k ≤ q → I2 61 q = I 61 q) → EX (cal d) 134 K 10 [some (.ref 59), some (.int (Int32.ofNat k))] [] (0, 0) (hp fz nn (lay Ln) I2 J) := by
    intro hl m
    induction m with
    | zero =>
      intro k hk I2 f2 g2 c2 d2
      obtain rfl : k = 372 := hk
      refine r_134_10 hn (if_y (Int32.le_refl _) ?_)
      rw [g2]
      have e61 : (w2 I2 59 3 ((4 : Int32) - 1)) 61 = I2 61 := w2_other _ _ _ (by decide)
      have f4 : SvF I (w2 I2 59 3 ((4 : Int32) - 1)) := fun a q hq => by rw [w2_at, if_neg (by omega)]; exact f2 a q hq
      have g4 : (w2 I2 59 3 ((4 : Int32) - 1)) 59 3 = Int32.ofNat 3 := by rw [w2_at, if_pos ⟨rfl, rfl⟩]; rfl
      refine lp2 3 (w2 I2 59 3 ((4 : Int32) - 1)) (by decide) ?_ f4 g4 (fun j v hj hv => ?_) 124 0 (by decide) _ f4 g4 (fun _ _ => rfl) (fun q h => absurd h (Nat.not_lt_zero q))
      · rw [List.length_take, List.length_cons, hl]; rfl
      · rw [e61]
        refine (hR.ps j v hv).mono (fun k hk => ?_)
        rw [hl]
        have hb : 124 * (3 - 1 - j) + k < 372 := by omega
        rw [c2 _ hb]
        congr 1
        omega
    | succ m ih =>
      intro k hk I2 f2 g2 c2 d2
      have ek : Int32.ofNat k + 124 = Int32.ofNat (k + 124) := oN_add k 124
      refine r_134_10 hn (if_n (le_n (a := 372) (by omega) (by decide)) ?_)
      rw [ek, oN_clamp (by omega), oN_clamp (by omega), oN_succ]
      refine ⟨oN_vin (by omega) (by decide), oN_vin (by omega) (by decide), ih (k + 1) (by omega) _ (fun a q hq => ?_) ?_ (fun q hq => ?_) (fun q hq => ?_)⟩
      · rw [w2_at, if_neg (by omega)]; exact f2 a q hq
      · rw [w2_ne _ _ (by decide)]; exact g2
      · rw [w2_at]
        by_cases e : q = k
        · subst e; rw [if_pos ⟨rfl, rfl⟩]; exact d2 _ (by omega)
        · rw [if_neg (by omega)]; exact c2 q (by omega)
      · rw [w2_at, if_neg (by omega)]; exact d2 q (by omega)
  refine call_in (Nat.le_of_ble_eq_true rfl) rfl rfl (r_134_0 hn ?_)
  refine if_c (fun e => ?_) (fun e => ?_)
  · rw [hR.sv] at e
    have hl := (oN_eq (b := 4) (by omega) (by decide)).mp e
    exact lp1 hl 372 0 (by decide) I (SvF.rf I) (by rw [hR.sv, hl]; rfl) (fun q h => absurd h (Nat.not_lt_zero q)) (fun _ _ => rfl)
  · rw [hR.sv] at e
    have hl : hs.length ≠ 4 := fun z => e (by rw [z]; rfl)
    refine lp2 hs.length I (by omega) ?_ (SvF.rf I) hR.sv (fun j v _ hv => hR.ps j v hv) 124 0 (by decide) I (SvF.rf I) hR.sv (fun _ _ => rfl) (fun q h => absurd h (Nat.not_lt_zero q))
    rw [List.length_take, List.length_cons]; omega
theorem sr_undo0 (hn : 74 ≤ nn) (hR : RfS I W H C w [] t T) (h1 : ∀ I', RQ I J I' J → I' 59 4 = 1 → K (.inl (some (.int 0))) (hp fz nn (lay Ln) I' J)) : cal (d + 2) 135 [.ref 59] (hp fz nn (lay Ln) I J) K :=
  call_in (Nat.le_of_ble_eq_true rfl) rfl rfl (r_135_0 hn (if_y hR.sv (h1 _ (rq4 1) (at4 1))))
theorem sr_undo {v : Sav} (hn : 74 ≤ nn) (hR : RfS I W H C w (v :: hs) t T) (h2 : ∀ I', RF I J I' J → RfS I' v.1.1 v.1.2.1 v.1.2.2 v.2 hs t T → I' 59 4 = 0 → K (.inl (some (.int (Int32.ofNat hs.length)))) (hp fz nn (lay Ln) I' J)) : cal (d + 2) 135 [.ref 59] (hp fz nn (lay Ln) I J) K := by
  have h4 := hR.s4
  rw [List.length_cons] at h4
  have hsv := hR.sv
  rw [List.length_cons] at hsv
  have e3 : ∀ s k : Nat, (124 : Int32) * Int32.ofNat s + Int32.ofNat k = Int32.ofNat (124 * s + k) := fun s k => by
    rw [show (124 : Int32) * Int32.ofNat s = Int32.ofNat (124 * s) from oN_mul 124 s, oN_add]
  have hr := hR.ps 0 v rfl
  have lp : ∀ m k, k + m = 124 → ∀ I2, (∀ a q, ¬ (a = 60 ∨ (a = 59 ∧ (q = 3 ∨ q = 4))) → I2 a q = I a q) → I2 59 3 = Int32.ofNat hs.length → I2 59 4 = 0 → (∀ q, q < k → I2 60 q = I 61 (124 * hs.length + q)) → EX (cal (d + 1)) 135 K 33 [some (.ref 59), some (.int (Int32.ofNat k))] [] (0, 0) (hp fz nn (lay Ln) I2 J) := by
    intro m
    induction m with
    | zero =>
      intro k hk I2 f2 g2 z2 c2
      obtain rfl : k = 124 := hk
      refine r_135_33 hn (if_y (Int32.le_refl _) ?_)
      rw [g2]
      refine h2 I2 ⟨fun a ha => by funext q; exact f2 a q (by omega), fun _ _ => rfl⟩ (RfS.mk ?_ g2 (by omega) (fun j u hu => ?_) ?_ hR.t60 (fun k hk => ?_)) z2
      · refine hr.mono (fun k hk => ?_)
        rw [Nat.zero_add, c2 k hk, List.length_cons, Nat.add_sub_cancel, Nat.sub_zero]
      · have hj : j < hs.length := (List.getElem?_eq_some_iff.mp hu).1
        have := hR.ps (j + 1) u (by rw [List.getElem?_cons_succ]; exact hu)
        refine this.mono (fun k hk => ?_)
        rw [f2 61 _ (by omega), List.length_cons, show hs.length + 1 - 1 - (j + 1) = hs.length - 1 - j by omega]
      · rw [f2 59 6 (by omega)]; exact hR.tn
      · rw [f2 63 k (by omega)]; exact hR.ta k hk
    | succ m ih =>
      intro k hk I2 f2 g2 z2 c2
      refine r_135_33 hn (if_n (le_n (a := 124) (by omega) (by decide)) ?_)
      rw [g2, e3, oN_clamp (by omega), oN_clamp (by omega), oN_succ]
      refine ⟨oN_vin (by omega) (by decide), oN_vin (by omega) (by decide), ih (k + 1) (by omega) _ (fun a q hq => ?_) ?_ ?_ (fun q hq => ?_)⟩
      · rw [w2_at, if_neg (by omega)]; exact f2 a q hq
      · rw [w2_ne _ _ (by decide)]; exact g2
      · rw [w2_ne _ _ (by decide)]; exact z2
      · rw [w2_at]
        by_cases e : q = k
        · subst e; rw [if_pos ⟨rfl, rfl⟩]; exact f2 61 _ (by omega)
        · rw [if_neg (by omega)]; exact c2 q (by omega)
  refine call_in (Nat.le_of_ble_eq_true rfl) rfl rfl (r_135_0 hn (if_n ?_ ?_))
  · rw [hsv]; exact oN_ne0 (by omega) (Nat.succ_pos _)
  · have e1 : (w2 I 59 4 0) 59 3 - 1 = Int32.ofNat hs.length := by
      rw [w2_at, if_neg (by decide), hsv]
      exact oN_sub (b := 1) (by omega)
    rw [e1]
    exact lp 124 0 (by decide) _ (fun a q hq => by rw [w2_at, if_neg (by omega), w2_at, if_neg (by omega)]) (by rw [w2_at, if_pos ⟨rfl, rfl⟩]) (by rw [w2_at, if_neg (by decide)]; exact at4 0) (fun q h => absurd h (Nat.not_lt_zero q))
theorem sp_empties {W' H' : Nat} (hn : 74 ≤ nn) (hK : ∀ I', (∀ a k, ¬ (a = 60 ∧ k < 51) → I' a k = I a k) → I' 60 0 = Int32.ofNat W' → I' 60 1 = Int32.ofNat H' → (∀ c, c < 49 → I' 60 (2 + c) = 46) → K (.inl none) (hp fz nn (lay Ln) I' J)) :
    cal (d + 1) 136 [.ref 59, .int (Int32.ofNat W'), .int (Int32.ofNat H')] (hp fz nn (lay Ln) I J) K := by
  have lp : ∀ m k, k + m = 49 → ∀ I2, (∀ a k, ¬ (a = 60 ∧ k < 51) → I2 a k = I a k) → I2 60 0 = Int32.ofNat W' → I2 60 1 = Int32.ofNat H' → (∀ c, c < k → I2 60 (2 + c) = 46) → EX (cal d) 136 K 16 [some (.ref 59), none, none, some (.int (Int32.ofNat k))] [] (0, 0) (hp fz nn (lay Ln) I2 J) := by
    intro m
    induction m with
    | zero =>
      intro k hk I2 f2 a2 b2' c2
      obtain rfl : k = 49 := hk
      exact r_136_16 hn (if_y (Int32.le_refl _) (hK I2 f2 a2 b2' c2))
    | succ m ih =>
      intro k hk I2 f2 a2 b2' c2
      have e : (2 : Int32) + Int32.ofNat k = Int32.ofNat (2 + k) := oN_add 2 k
      refine r_136_16 hn (if_n (le_n (a := 49) (by omega) (by decide)) ?_)
      rw [e, oN_clamp (by omega), oN_succ]
      refine ⟨oN_vin (by omega) (by decide), ih (k + 1) (by omega) _ (fun a q hq => ?_) ?_ ?_ (fun q hq => ?_)⟩
      · rw [w2_at, if_neg (by omega)]; exact f2 a q hq
      · rw [w2_at, if_neg (by omega)]; exact a2
      · rw [w2_at, if_neg (by omega)]; exact b2'
      · rw [w2_at]
        by_cases y : q = k
        · subst y; rw [if_pos ⟨rfl, rfl⟩]
        · rw [if_neg (by omega)]; exact c2 q (by omega)
  exact call_in (Nat.le_of_ble_eq_true rfl) rfl rfl (r_136_0 hn (lp 49 0 (by decide) _ (fun a q hq => by rw [w2_at, if_neg (by omega), w2_at, if_neg (by omega)]) (by rw [w2_at, if_neg (by decide), w2_at, if_pos ⟨rfl, rfl⟩]) (by rw [w2_at, if_pos ⟨rfl, rfl⟩]) (fun q h => absurd h (Nat.not_lt_zero q))))
/-- a state whose stone alone is changed -/
theorem RfS.stone {I' : HI} {W' H' : Nat} {C' : Cel} (hR : RfS I W H C w hs t T) (hf : ∀ a k, (a = 61 ∨ a = 63 ∨ (a = 60 ∧ 51 ≤ k) ∨ (a = 59 ∧ (k = 3 ∨ k = 6))) → I' a k = I a k) (hw : I' 60 0 = Int32.ofNat W') (hh : I' 60 1 = Int32.ofNat H') (h1 : 2 ≤ W' ∧ W' ≤ 7) (h2 : 2 ≤ H' ∧ H' ≤ 7) (hc : ∀ c, c < W' * H' → I' 60 (2 + c) = C' c) : RfS I' W' H' C' w hs t T :=
  RfS.mk (hR.row.stone hw hh h1 h2 hc (fun k hk => hf 60 k (by omega))) (by rw [hf 59 3 (by omega)]; exact hR.sv) hR.s4 (fun j v hv => by rw [show I' 61 = I 61 from funext fun k => hf 61 k (by omega)]; exact hR.ps j v hv) (by rw [hf 59 6 (by omega)]; exact hR.tn) hR.t60 (fun k hk => by rw [hf 63 k (by omega)]; exact hR.ta k hk)
theorem sr_setSize (hn : 74 ≤ nn) {p q : Int32} (hR : RfS I W H C w hs t T) (h1 : (wi p 2 7 && wi q 2 7) = false → ∀ I', RQ I J I' J → I' 59 4 = 1 → K (.inl (some (.int 0))) (hp fz nn (lay Ln) I' J))
    (h2 : (wi p 2 7 && wi q 2 7) = true → ∀ I', RF I J I' J → RfS I' p.toNatClampNeg q.toNatClampNeg (fun _ => 46) w ((((W, H, C), w) :: hs).take 4) t T → I' 59 4 = 0 → K (.inl (some (.int (Int32.ofNat (2 * (p.toNatClampNeg + q.toNatClampNeg)))))) (hp fz nn (lay Ln) I' J)) :
    cal (d + 3) 146 [.ref 59, .int p, .int q] (hp fz nn (lay Ln) I J) K := by
  refine call_in (Nat.le_of_ble_eq_true rfl) rfl rfl (r_146_0 hn ?_)
  rw [f9_in, f9_in]
  refine b2c (fun e => h1 (by rw [e]; rfl) _ (rq4 1) (at4 1)) (fun e => b2c (fun e2 => h1 (by rw [e, e2]; rfl) _ (rq4 1) (at4 1)) (fun e2 => ?_))
  replace h2 := h2 (by rw [e, e2]; rfl)
  obtain ⟨k1, k2, k3⟩ := wi_nat (a := 2) (b := 7) (by decide) (by decide) e
  obtain ⟨l1, l2, l3⟩ := wi_nat (a := 2) (b := 7) (by decide) (by decide) e2
  generalize p.toNatClampNeg = W' at *
  generalize q.toNatClampNeg = H' at *
  subst k1
  subst l1
  refine sp_saves (d := d + 1) hn (hR.r4 0) (fun I1 f1 r1 => kc_0 rfl rfl (r_146_32 hn ?_))
  refine sp_empties (d := d + 1) hn (fun I2 f2 a2 b2' c2 => kc_0 rfl rfl (r_146_38 hn ?_))
  have h49 := n49 k3 l3
  have r2 : RfS I2 W' H' (fun _ => 46) w ((((W, H, C), w) :: hs).take 4) t T := r1.stone (fun a k hq => f2 a k (by omega)) a2 b2' ⟨k2, k3⟩ ⟨l2, l3⟩ (fun c hc => c2 c (by omega))
  rw [r2.now.gt]
  refine h2 I2 ⟨fun a ha => ?_, fun _ _ => rfl⟩ r2 ?_
  · funext k
    rw [f2 a k (by omega), f1 a k (by omega), w2_at, if_neg (by omega)]
  · rw [f2 59 4 (by omega), f1 59 4 (by omega)]; exact at4 0
theorem sr_setCell (hn : 74 ≤ nn) {p q : Int32} (hR : RfS I W H C w hs t T) (h1 : inN p (W * H) = false → ∀ I', RQ I J I' J → I' 59 4 = 1 → K (.inl (some (.int 0))) (hp fz nn (lay Ln) I' J)) (h1' : inN p (W * H) = true → isOB q = false → ∀ I', RQ I J I' J → I' 59 4 = 2 → K (.inl (some (.int 0))) (hp fz nn (lay Ln) I' J))
    (h2 : inN p (W * H) = true → isOB q = true → ∀ I', RF I J I' J → RfS I' W H (updC C p.toNatClampNeg q) w ((((W, H, C), w) :: hs).take 4) t T → I' 59 4 = 0 → K (.inl (some (.int (C p.toNatClampNeg)))) (hp fz nn (lay Ln) I' J)) :
    cal (d + 3) 147 [.ref 59, .int p, .int q] (hp fz nn (lay Ln) I J) K := by
  have hN := hR.now
  have h49 := hN.n
  refine call_in (Nat.le_of_ble_eq_true rfl) rfl rfl (r_147_0 hn ?_)
  rw [cell_wi hN, f9_byte]
  refine b2c (fun e => h1 e _ (rq4 1) (at4 1)) (fun e => b2c (fun e2 => h1' e e2 _ (rq4 2) (at4 2)) (fun e2 => ?_))
  replace h2 := h2 e e2
  obtain ⟨k1, k2⟩ := inN_nat (by omega) e
  generalize p.toNatClampNeg = c at *
  subst k1
  refine sp_saves (d := d + 1) hn (hR.r4 0) (fun I1 f1 r1 => kc_0 rfl rfl (r_147_37 hn ?_))
  have e : (2 : Int32) + Int32.ofNat c = Int32.ofNat (2 + c) := oN_add 2 c
  refine sp_at9 (d := d + 1) hn r1.now k2 (kc_v rfl rfl (r_147_42 hn ?_))
  rw [e, oN_clamp (by omega)]
  have hN1 := r1.now
  refine ⟨oN_vin (by omega) (by decide), h2 _ ⟨fun a ha => ?_, fun _ _ => rfl⟩ (r1.stone (fun a k hq => by rw [w2_at, if_neg (by omega)]) ?_ ?_ hN1.ws hN1.hs (fun x hx => ?_)) ?_⟩
  · funext k
    rw [w2_at, if_neg (by omega), f1 a k (by omega), w2_at, if_neg (by omega)]
  · rw [w2_at, if_neg (by omega)]; exact hN1.w
  · rw [w2_at, if_neg (by omega)]; exact hN1.h
  · rw [w2_at]
    show _ = if x = c then q else C x
    by_cases y : x = c
    · subst y; rw [if_pos ⟨rfl, rfl⟩, if_pos rfl]
    · rw [if_neg (by omega), if_neg y]; exact hN1.cl x hx
  · rw [w2_ne _ _ (by decide), f1 59 4 (by omega)]; exact at4 0
theorem sp_corners9 (hn : 74 ≤ nn) (hN : NowR I W H C) (hK : K (.inl (some (.int (Int32.ofNat (cntB (fun c => isCB (C c)) (W * H)))))) (hp fz nn (lay Ln) I J)) : cal (d + 2) 149 [.ref 59] (hp fz nn (lay Ln) I J) K := by
  have h49 := hN.n
  have lp : ∀ m a, a + m = W * H → EX (cal (d + 1)) 149 K 4 [some (.ref 59), some (.int (Int32.ofNat (cntB (fun c => isCB (C c)) a))), some (.int (Int32.ofNat a))] [] (0, 0) (hp fz nn (lay Ln) I J) := by
    intro m
    induction m with
    | zero =>
      intro a ha
      obtain rfl : a = W * H := ha
      exact r_149_4 hn (if_y (by rw [hN.wh]; exact Int32.le_refl _) hK)
    | succ m ih =>
      intro a ha
      have ih := ih (a + 1) (by omega)
      have es : cntB (fun c => isCB (C c)) (a + 1) = cntB (fun c => isCB (C c)) a + (if isCB (C a) = true then 1 else 0) := rfl
      rw [es] at ih
      refine r_149_4 hn (if_n (by rw [hN.wh]; exact le_n (by omega) (by omega)) (sp_at9 (d := d) hn hN (by omega) (kc_v rfl rfl (r_149_18 hn ?_))))
      rw [oN_succ, oN_succ, Int32.add_zero, f9_corner]
      exact b2c (fun e => by rw [e] at ih; exact ih) (fun e => by rw [e] at ih; exact ih)
  exact call_in (Nat.le_of_ble_eq_true rfl) rfl rfl (r_149_0 hn (lp _ 0 (Nat.zero_add _)))
theorem sr_turnCorners (hn : 74 ≤ nn) (hR : RfS I W H C w hs t T)
    (h2 : ∀ I', RF I J I' J → RfS I' W H (fun c => tcB (C c)) w ((((W, H, C), w) :: hs).take 4) t T → K (.inl (some (.int (Int32.ofNat (cntB (fun c => isCB (tcB (C c))) (W * H)))))) (hp fz nn (lay Ln) I' J)) :
    cal (d + 3) 150 [.ref 59] (hp fz nn (lay Ln) I J) K := by
  have h49 := hR.now.n
  refine call_in (Nat.le_of_ble_eq_true rfl) rfl rfl (r_150_0 (d := d + 1) hn (sp_saves (d := d + 1) hn (hR.r4 0) (fun I1 f1 r1 => kc_0 rfl rfl (r_150_9 (d := d + 1) hn ?_))))
  have hN1 := r1.now
  have lp : ∀ m k, k + m = W * H → ∀ I2, (∀ a q, ¬ (a = 60 ∧ 2 ≤ q ∧ q < 51) → I2 a q = I1 a q) → (∀ c, c < W * H → I2 60 (2 + c) = if c < k then tcB (C c) else C c) → EX (cal (d + 1 + 1)) 150 K 11 [some (.ref 59), some (.int (Int32.ofNat k))] [] (0, 0) (hp fz nn (lay Ln) I2 J) := by
    intro m
    induction m with
    | zero =>
      intro k hk I2 f2 c2
      obtain rfl : k = W * H := hk
      have r2 : RfS I2 W H (fun c => tcB (C c)) w ((((W, H, C), w) :: hs).take 4) t T := r1.stone (fun a q hq => f2 a q (by omega)) (by rw [f2 60 0 (by omega)]; exact hN1.w) (by rw [f2 60 1 (by omega)]; exact hN1.h) hN1.ws hN1.hs (fun c hc => by rw [c2 c hc, if_pos hc])
      refine r_150_11 (d := d + 1) hn (if_y (by rw [r2.now.wh]; exact Int32.le_refl _) (sp_corners9 (d := d) hn r2.now (kc_v rfl rfl (r_150_45 (d := d + 1) hn (h2 I2 ⟨fun a ha => ?_, fun _ _ => rfl⟩ r2)))))
      funext q
      rw [f2 a q (by omega), f1 a q (by omega), w2_at, if_neg (by omega)]
    | succ m ih =>
      intro k hk I2 f2 c2
      have e : (2 : Int32) + Int32.ofNat k = Int32.ofNat (2 + k) := oN_add 2 k
      have hN2 : NowR I2 W H (fun c => if c < k then tcB (C c) else C c) := NowR.mk (by rw [f2 60 0 (by omega)]; exact hN1.w) (by rw [f2 60 1 (by omega)]; exact hN1.h) hN1.ws hN1.hs c2
      refine r_150_11 (d := d + 1) hn (if_n (by rw [hN2.wh]; exact le_n (by omega) (by omega)) (sp_at9 (d := d + 1) hn hN2 (by omega) (kc_v rfl rfl (r_150_31 (d := d + 1) hn ?_))))
      rw [e, oN_clamp (by omega), oN_succ, if_neg (Nat.lt_irrefl k)]
      refine ⟨oN_vin (by omega) (by decide), ih (k + 1) (by omega) _ (fun a q hq => ?_) (fun c hc => ?_)⟩
      · rw [w2_at, if_neg (by omega)]; exact f2 a q hq
      · rw [w2_at]
        by_cases y : c = k
        · subst y; rw [if_pos ⟨rfl, rfl⟩, if_pos (Nat.lt_succ_self c)]; rfl
        · rw [if_neg (by omega), c2 c hc]
          by_cases z : c < k
          · rw [if_pos z, if_pos (by omega)]
          · rw [if_neg z, if_neg (by omega)]
  exact lp _ 0 (Nat.zero_add _) I1 (fun _ _ _ => rfl) (fun c hc => by rw [if_neg (Nat.not_lt_zero c)]; exact hN1.cl c hc)
theorem sr_turnStone (hn : 74 ≤ nn) (hR : RfS I W H C w hs t T)
    (h2 : ∀ I', RF I J I' J → RfS I' H W (trC W H C) w ((((W, H, C), w) :: hs).take 4) t T → K (.inl (some (.int (Int32.ofNat (2 * (W + H)))))) (hp fz nn (lay Ln) I' J)) :
    cal (d + 3) 151 [.ref 59] (hp fz nn (lay Ln) I J) K := by
  have h49 := hR.now.n
  refine call_in (Nat.le_of_ble_eq_true rfl) rfl rfl (r_151_0 (d := d + 1) hn (sp_saves (d := d + 1) hn (hR.r4 0) (fun I1 f1 r1 => kc_0 rfl rfl (r_151_9 (d := d + 1) hn ?_))))
  have hN1 := r1.now
  have hW := hN1.ws
  have hH := hN1.hs
  rw [hN1.w, hN1.h]
  -- the cells are laid turned
  have lp2 : ∀ I2, RfS I2 H W (fun _ => 46) w ((((W, H, C), w) :: hs).take 4) t T → (∀ a q, a < 59 → I2 a q = I1 a q) → (∀ k, k < W * H → I2 62 (2 + k) = C k) →
      ∀ m k, k + m = W * H → ∀ I3, (∀ a q, ¬ (a = 60 ∧ 2 ≤ q ∧ q < 51) → I3 a q = I2 a q) → (∀ k', k' < k → I3 60 (2 + (k' % W * H + (H - 1 - k' / W))) = tcB (C k')) → EX (cal (d + 1 + 1)) 151 K 57 [some (.ref 59), some (.int (Int32.ofNat W)), some (.int (Int32.ofNat H)), some (.int (Int32.ofNat k))] [] (0, 0) (hp fz nn (lay Ln) I3 J) := by
    intro I2 r2 f2 c2 m
    have hN2 := r2.now
    induction m with
    | zero =>
      intro k hk I3 f3 d3
      obtain rfl : k = W * H := hk
      have r3 : RfS I3 H W (trC W H C) w ((((W, H, C), w) :: hs).take 4) t T := by
        refine r2.stone (fun a q hq => f3 a q (by omega)) (by rw [f3 60 0 (by omega)]; exact hN2.w) (by rw [f3 60 1 (by omega)]; exact hN2.h) hH hW (fun x hx => ?_)
        have q1 : x / H < W := Nat.div_lt_of_lt_mul hx
        have q2 : x % H < H := Nat.mod_lt _ (by omega)
        have hlt : (H - 1 - x % H) * W + x / H < W * H := cell_lt (s := (H - 1 - x % H, x / H, 0)) ⟨by show H - 1 - x % H < H; omega, q1, by show (0 : Nat) < 4; decide⟩
        have e := d3 _ hlt
        have e1 : ((H - 1 - x % H) * W + x / H) % W = x / H := by
          rw [Nat.add_comm, Nat.add_mul_mod_self_right, Nat.mod_eq_of_lt q1]
        have e2 : ((H - 1 - x % H) * W + x / H) / W = H - 1 - x % H := by
          rw [Nat.add_comm, Nat.add_mul_div_right _ _ (by omega), Nat.div_eq_of_lt q1, Nat.zero_add]
        rw [e1, e2, show H - 1 - (H - 1 - x % H) = x % H by omega, Nat.mul_comm (x / H) H, Nat.div_add_mod] at e
        rw [e]
        rfl
      refine r_151_57 (d := d + 1) hn (if_y (by rw [oN_mul]; exact Int32.le_refl _) ?_)
      rw [r3.now.gt, Nat.add_comm H W]
      refine h2 I3 ⟨fun a ha => ?_, fun _ _ => rfl⟩ r3
      funext q
      rw [f3 a q (by omega), f2 a q ha, f1 a q (by omega), w2_at, if_neg (by omega)]
    | succ m ih =>
      intro k hk I3 f3 d3
      have q1 : k / W < H := Nat.div_lt_of_lt_mul (by omega)
      have q2 : k % W < W := Nat.mod_lt _ (by omega)
      have hnew : k % W * H + (H - 1 - k / W) < W * H := cell_lt (s := (k % W, H - 1 - k / W, 0)) (W := H) (H := W) ⟨q2, Nat.lt_of_le_of_lt (Nat.sub_le _ _) (show H - 1 < H by omega), by show (0 : Nat) < 4; decide⟩ |> fun h => by rw [Nat.mul_comm H W] at h; exact h
      refine r_151_57 (d := d + 1) hn (if_n (by rw [oN_mul]; exact le_n (by omega) (by omega)) ⟨oN_ne0 (by omega) (by omega), oN_ne0 (by omega) (by omega), ?_⟩)
      have e2 : (2 : Int32) + Int32.ofNat k = Int32.ofNat (2 + k) := oN_add 2 k
      have e3 : (2 : Int32) + (Int32.ofNat k - Int32.ofNat k / Int32.ofNat W * Int32.ofNat W) * Int32.ofNat H + Int32.ofNat H - 1 - Int32.ofNat k / Int32.ofNat W = Int32.ofNat (2 + (k % W * H + (H - 1 - k / W))) := by
        have e4 : Int32.ofNat (2 + k % W * H + H) - 1 = Int32.ofNat (2 + k % W * H + H - 1) := oN_sub (b := 1) (by omega)
        rw [oN_mod (by omega) (by omega), oN_div (by omega) (by omega), oN_mul, show (2 : Int32) + Int32.ofNat (k % W * H) = Int32.ofNat (2 + k % W * H) from oN_add 2 _, oN_add, e4, oN_sub (by omega)]
        congr 1
        omega
      rw [e2, e3, oN_clamp (by omega), oN_clamp (by omega), oN_succ, f3 62 _ (by omega), c2 k (by omega)]
      refine ⟨oN_vin (by omega) (by decide), oN_vin (by omega) (by decide), ih (k + 1) (by omega) _ (fun a q hq => ?_) (fun k' hk' => ?_)⟩
      · rw [w2_at, if_neg (by omega)]; exact f3 a q hq
      · rw [w2_at]
        by_cases y : k' = k
        · subst y; rw [if_pos ⟨rfl, rfl⟩]; rfl
        · rw [if_neg (fun z => ?_)]
          · exact d3 k' (by omega)
          · have p1 : k' / W < H := Nat.div_lt_of_lt_mul (by omega)
            have z2 : k' % W * H + (H - 1 - k' / W) = k % W * H + (H - 1 - k / W) := by omega
            obtain ⟨a1, a2⟩ := cell_inj (Nat.lt_of_le_of_lt (Nat.sub_le _ _) (show H - 1 < H by omega) : H - 1 - k' / W < H) (Nat.lt_of_le_of_lt (Nat.sub_le _ _) (show H - 1 < H by omega) : H - 1 - k / W < H) z2
            have a3 : k' / W = k / W := by omega
            have b1 := Nat.div_add_mod k' W
            have b2' := Nat.div_add_mod k W
            rw [a1, a3] at b1
            omega
  have lp : ∀ m k, k + m = 124 → ∀ I2, (∀ a q, a ≠ 62 → I2 a q = I1 a q) → (∀ q, q < k → I2 62 q = I1 60 q) → EX (cal (d + 1 + 1)) 151 K 25 [some (.ref 59), some (.int (Int32.ofNat W)), some (.int (Int32.ofNat H)), some (.int (Int32.ofNat k))] [] (0, 0) (hp fz nn (lay Ln) I2 J) := by
    intro m
    induction m with
    | zero =>
      intro k hk I2 f2 c2
      obtain rfl : k = 124 := hk
      refine r_151_25 (d := d + 1) hn (if_y (Int32.le_refl _) (sp_empties (d := d + 1) hn (fun I3 f3 a3 b3 c3 => kc_0 rfl rfl (r_151_55 (d := d + 1) hn ?_))))
      have r3 : RfS I3 H W (fun _ => 46) w ((((W, H, C), w) :: hs).take 4) t T := r1.stone (fun a q hq => by rw [f3 a q (by omega)]; exact f2 a q (by omega)) a3 b3 hH hW (fun c hc => c3 c (by have := n49 hH.2 hW.2; omega))
      exact lp2 I3 r3 (fun a q ha => by rw [f3 a q (by omega)]; exact f2 a q (by omega)) (fun k hk => by rw [f3 62 _ (by omega), c2 _ (by omega)]; exact hN1.cl k hk) _ 0 (Nat.zero_add _) I3 (fun _ _ _ => rfl) (fun k' h => absurd h (Nat.not_lt_zero k'))
    | succ m ih =>
      intro k hk I2 f2 c2
      refine r_151_25 (d := d + 1) hn (if_n (le_n (a := 124) (by omega) (by decide)) ?_)
      rw [oN_clamp (by omega), oN_succ]
      refine ⟨oN_vin (by omega) (by decide), ih (k + 1) (by omega) _ (fun a q hq => ?_) (fun q hq => ?_)⟩
      · rw [w2_at, if_neg (by omega)]; exact f2 a q hq
      · rw [w2_at]
        by_cases y : q = k
        · subst y; rw [if_pos ⟨rfl, rfl⟩]; exact f2 60 q (by decide)
        · rw [if_neg (by omega)]; exact c2 q (by omega)
  exact lp 124 0 (by decide) I1 (fun _ _ _ => rfl) (fun q h => absurd h (Nat.not_lt_zero q))
end CHG
