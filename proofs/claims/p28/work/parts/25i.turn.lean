/-! ===== runes counted; corners and the stone turned ===== -/
theorem cntB_zero {p : Nat → Bool} {n : Nat} (h : ∀ i, i < n → p i = false) : cntB p n = 0 := by
  induction n with
  | zero => rfl
  | succ n ih =>
    unfold cntB
    rw [ih (fun i hi => h i (by omega)), h n (by omega)]
    rfl
theorem bt_rmask {C : Nat → Int32} {n : Nat} (hn : n ≤ 64) (c : Nat) : bt (rmask C n) c = (decide (c < n) && isRB (C c)) := by
  induction n with
  | zero => unfold rmask; rw [bt_zero]; rfl
  | succ n ih =>
    have ih := ih (by omega)
    unfold rmask
    by_cases h : isRB (C n) = true
    · rw [if_pos h, bt_or, ih, bt_bit (by omega)]
      by_cases e : c = n
      · subst e
        simp [h]
      · have : (c < n + 1) = (c < n) := by apply propext; omega
        simp [e, this]
    · rw [if_neg h, ih]
      by_cases e : c = n
      · subst e
        simp [h]
      · have : (c < n + 1) = (c < n) := by apply propext; omega
        simp [this]
theorem cntB_cut {p : Nat → Bool} {n m : Nat} (h : n ≤ m) : cntB (fun c => decide (c < n) && p c) m = cntB p n := by
  rw [show m = n + (m - n) by omega, cntB_add, cntB_zero (p := fun i => decide (n + i < n) && p (n + i))]
  · rw [Nat.add_zero]
    apply cntB_congr
    intro i hi
    simp [hi]
  · intro i _
    have : ¬ n + i < n := by omega
    simp [this]
theorem cnt_rmask {C : Nat → Int32} {n : Nat} (hn : n ≤ 64) : cntB (bt (rmask C n)) 64 = cntB (fun c => isRB (C c)) n := by
  rw [← cntB_cut hn]
  apply cntB_congr
  intro i _
  exact bt_rmask hn i
theorem rmask_congr {C D : Nat → Int32} {n : Nat} (h : ∀ c, c < n → C c = D c) : rmask C n = rmask D n := by
  induction n with
  | zero => rfl
  | succ n ih =>
    unfold rmask
    rw [ih (fun c hc => h c (by omega)), h n (by omega)]
/-- a corner turned -/
def tcB (v : Int32) : Int32 := if v = 47 then 92 else if v = 92 then 47 else v
theorem f_tc (v : Int32) : f_X8_turnedCorner v = tcB v := rfl
/-- the cells of a stone turned to the right, by the new width (the old height) -/
def trC (W H : Nat) (C : Cel) (k : Nat) : Int32 := tcB (C ((H - 1 - k % H) * W + k / H))
theorem trC_at {W H : Nat} {C : Cel} {r c : Nat} (hr : r < H) (hc : c < W) : trC W H C (c * H + (H - 1 - r)) = tcB (C (r * W + c)) := by
  unfold trC
  have e1 : (c * H + (H - 1 - r)) % H = H - 1 - r := by
    rw [Nat.add_comm, Nat.add_mul_mod_self_right, Nat.mod_eq_of_lt (by omega)]
  have e2 : (c * H + (H - 1 - r)) / H = c := by
    rw [Nat.add_comm, Nat.add_mul_div_right _ _ (by omega), Nat.div_eq_of_lt (by omega), Nat.zero_add]
  rw [e1, e2, show H - 1 - (H - 1 - r) = r by omega]
section TUR
variable {d nn Ln : Nat} {fz : Nat} {K : Post} {I : HI} {J : HJ} {W H : Nat} {C : Cel}
theorem StC.rm (hS : StC I W H C) : rmask (I 3) (W * H) = rmask C (W * H) := rmask_congr hS.2
theorem sp_countRunes (hn : 59 ≤ nn) (hS : StC I W H C) (hK : K (.inl (some (.int (Int32.ofNat (cntB (fun c => isRB (C c)) (W * H)))))) (hp fz nn (lay Ln) I J)) : cal (d + 5) 58 [.ref 2] (hp fz nn (lay Ln) I J) K := by
  have h49 := hS.1.n
  refine call_in (Nat.le_of_ble_eq_true rfl) rfl rfl (r_58_0 (d := d + 3) hn (sp_runeMask hn hS.1 (kc_v rfl rfl (r_58_4 (d := d + 3) hn ?_))))
  rw [hS.rm, bitCount_eq, cnt_rmask (by omega)]
  exact hK
theorem sp_turnEach (hn : 59 ≤ nn) (hS : StC I W H C) (hK : ∀ I', (∀ a, a ≠ 3 → I' a = I a) → StC I' W H (fun c => tcB (C c)) → K (.inl none) (hp fz nn (lay Ln) I' J)) : cal (d + 3) 55 [.ref 2] (hp fz nn (lay Ln) I J) K := by
  have lp : ∀ (m q : Nat) (I' : HI), q + m = W * H → (∀ a, a ≠ 3 → I' a = I a) → (∀ c, c < W * H → I' 3 c = if c < q then tcB (C c) else C c) →
      EX (cal (d + 2)) 55 K 2 [some (.ref 2), some (.int (Int32.ofNat q))] [] (0, 0) (hp fz nn (lay Ln) I' J) := by
    intro m
    induction m with
    | zero =>
      intro q I' hq h1 h2
      obtain rfl : q = W * H := hq
      have hS' : StC I' W H (fun c => tcB (C c)) := by
        refine ⟨⟨?_, ?_, hS.1.2.2⟩, fun c hc => ?_⟩
        · rw [h1 2 (by decide)]; exact hS.1.1
        · rw [h1 2 (by decide)]; exact hS.1.2.1
        · rw [h2 c hc, if_pos hc]
      exact r_55_2 hn (if_y (st_out hS'.1 (Nat.le_refl _) hS.1.n) (hK I' h1 hS'))
    | succ m ih =>
      intro q I' hq h1 h2
      have hS' : Stn I' W H := by
        refine ⟨?_, ?_, hS.1.2.2⟩
        · rw [h1 2 (by decide)]; exact hS.1.1
        · rw [h1 2 (by decide)]; exact hS.1.2.1
      have hq49 : q < 49 := Nat.lt_of_lt_of_le (by omega) hS.1.n
      refine r_55_2 hn (if_n (st_go hS' (by omega)) ?_)
      rw [atI_cell hq49, h2 q (by omega), if_neg (by omega), f_tc, pI2_oN hq49 (by decide), oN_succ]
      refine ih (q + 1) _ (by omega) (fun a ha => ?_) (fun c hc => ?_)
      · rw [w2_other _ _ _ ha]; exact h1 a ha
      · rw [w2_at]
        by_cases e : c = q
        · subst e; rw [if_pos ⟨rfl, rfl⟩, if_pos (by omega)]
        · rw [if_neg (fun h => e h.2), h2 c hc]
          by_cases e2 : c < q
          · rw [if_pos e2, if_pos (by omega)]
          · rw [if_neg e2, if_neg (by omega)]
  exact call_in (Nat.le_of_ble_eq_true rfl) rfl rfl (r_55_0 hn (lp (W * H) 0 I (by omega) (fun _ _ => rfl) (fun c hc => by rw [if_neg (by omega)]; exact hS.2 c hc)))
theorem sp_turnRight (hn : 59 ≤ nn) (hS : StC I W H C) (hK : ∀ I', (∀ a, ¬ (2 ≤ a ∧ a ≤ 4) → I' a = I a) → StC I' H W (trC W H C) → K (.inl none) (hp fz nn (lay Ln) I' J)) : cal (d + 3) 56 [.ref 2] (hp fz nn (lay Ln) I J) K := by
  have h49 := hS.1.n
  have h2W := hS.1.2.2.1
  have h2H := hS.1.2.2.2
  have hfrS : ∀ I' : HI, (∀ a, a ≠ 4 → I' a = I a) → StC I' W H C := fun I' h => hS.mono (h 2 (by decide)) (h 3 (by decide))
  have lp2 : ∀ (r : Nat), r < H → (∀ I', (∀ a, a ≠ 4 → I' a = I a) → (∀ r' c, r' < r + 1 → c < W → I' 4 (c * H + (H - 1 - r')) = tcB (C (r' * W + c))) → EX (cal (d + 2)) 56 K 2 [some (.ref 2), some (.int (Int32.ofNat (r + 1))), none, none] [] (0, 0) (hp fz nn (lay Ln) I' J)) →
      ∀ (m c : Nat) (I' : HI), c + m = W → (∀ a, a ≠ 4 → I' a = I a) → (∀ r' c', r' < r + 1 → c' < W → (r' < r ∨ c' < c) → I' 4 (c' * H + (H - 1 - r')) = tcB (C (r' * W + c'))) →
        EX (cal (d + 2)) 56 K 12 [some (.ref 2), some (.int (Int32.ofNat r)), some (.int (Int32.ofNat c)), none] [] (0, 0) (hp fz nn (lay Ln) I' J) := by
    intro r hr hnext m
    induction m with
    | zero =>
      intro c I' hc h1 h2
      obtain rfl : c = W := hc
      have hS' := hfrS I' h1
      refine r_56_12 hn (if_y ?_ ?_)
      · rw [hS'.1.1]; exact Int32.le_refl _
      · rw [oN_succ]
        exact hnext I' h1 (fun r' c' hr' hc' => h2 r' c' hr' hc' (Or.inr hc'))
    | succ m ih =>
      intro c I' hc h1 h2
      have hS' := hfrS I' h1
      have hcell : r * W + c < W * H := cell_lt (s := (r, c, 0)) ⟨hr, by show c < W; omega, by show (0 : Nat) < 4; decide⟩
      have hnew : c * H + (H - 1 - r) < H * W := cell_lt (s := (c, H - 1 - r, 0)) ⟨by show c < W; omega, by show H - 1 - r < H; omega, by show (0 : Nat) < 4; decide⟩
      rw [Nat.mul_comm H W] at hnew
      refine r_56_12 hn (if_n ?_ ?_)
      · rw [hS'.1.1]; exact le_n (by omega) (by omega)
      · have e1 : Int32.ofNat r * I' 2 0 + Int32.ofNat c = Int32.ofNat (r * W + c) := by rw [hS'.1.1, oN_mul, oN_add]
        have e2 : Int32.ofNat c * I' 2 1 + I' 2 1 - 1 - Int32.ofNat r = Int32.ofNat (c * H + (H - 1 - r)) := by
          have e3 : Int32.ofNat (c * H + H) - 1 = Int32.ofNat (c * H + H - 1) := oN_sub (b := 1) (by omega)
          rw [hS'.1.2.1, oN_mul, oN_add, e3, oN_sub (by omega)]
          congr 1
          omega
        rw [e1, e2, hS'.byt hcell, f_tc, pI2_oN (by omega) (by decide), oN_succ]
        refine ih (c + 1) _ (by omega) (fun a ha => ?_) (fun r' c' hr' hc' hlt => ?_)
        · rw [w2_other _ _ _ ha]; exact h1 a ha
        · rw [w2_at]
          by_cases e : c' * H + (H - 1 - r') = c * H + (H - 1 - r)
          · obtain ⟨q1, q2⟩ := cell_inj (show H - 1 - r' < H by omega) (show H - 1 - r < H by omega) e
            have q3 : r' = r := by omega
            subst q1
            subst q3
            rw [if_pos ⟨rfl, rfl⟩]
          · rw [if_neg (fun h => e h.2)]
            refine h2 r' c' hr' hc' ?_
            by_cases q : r' = r
            · subst q
              have : c' ≠ c := fun q => e (by rw [q])
              omega
            · omega
  have lp1 : ∀ (m r : Nat) (I' : HI), r + m = H → (∀ a, a ≠ 4 → I' a = I a) → (∀ r' c, r' < r → c < W → I' 4 (c * H + (H - 1 - r')) = tcB (C (r' * W + c))) →
      EX (cal (d + 2)) 56 K 2 [some (.ref 2), some (.int (Int32.ofNat r)), none, none] [] (0, 0) (hp fz nn (lay Ln) I' J) := by
    intro m
    induction m with
    | zero =>
      intro r I' hr h1 h2
      obtain rfl : r = H := hr
      have hS' := hfrS I' h1
      refine r_56_2 hn (if_y ?_ (hK _ (fun a ha => ?_) ?_))
      · rw [hS'.1.2.1]; exact Int32.le_refl _
      · rw [← h1 a (by omega)]
        funext k
        rw [cpI_at, if_neg (by omega), w2_at, if_neg (by omega), w2_at, if_neg (by omega)]
      · refine ⟨⟨?_, ?_, h2H, h2W⟩, fun k hk => ?_⟩
        · rw [cpI_at, if_neg (by omega), w2_at, if_neg (by omega), w2_at, if_pos ⟨rfl, rfl⟩]; exact hS'.1.2.1
        · rw [cpI_at, if_neg (by omega), w2_at, if_pos ⟨rfl, rfl⟩]; exact hS'.1.1
        · have hk2 : k < 49 := by rw [Nat.mul_comm] at hk; omega
          rw [cpI_at, if_pos ⟨rfl, hk2⟩, w2_ne _ _ (by decide), w2_ne _ _ (by decide)]
          have q1 : k / r < W := Nat.div_lt_of_lt_mul hk
          have q2 : k % r < r := Nat.mod_lt _ (by omega)
          have e := h2 (r - 1 - k % r) (k / r) (by omega) q1
          rw [show r - 1 - (r - 1 - k % r) = k % r by omega, Nat.mul_comm (k / r) r, Nat.div_add_mod] at e
          rw [e]
          rfl
    | succ m ih =>
      intro r I' hr h1 h2
      have hS' := hfrS I' h1
      refine r_56_2 hn (if_n ?_ ?_)
      · rw [hS'.1.2.1]; exact le_n (by omega) (by omega)
      · exact lp2 r (by omega) (fun I2 g1 g2 => ih (r + 1) I2 (by omega) g1 g2) W 0 I' (by omega) h1 (fun r' c' hr' hc' hlt => h2 r' c' (by omega) hc')
  exact call_in (Nat.le_of_ble_eq_true rfl) rfl rfl (r_56_0 hn (lp1 H 0 I (by omega) (fun _ _ => rfl) (fun r' c hr' => absurd hr' (by omega))))
end TUR
