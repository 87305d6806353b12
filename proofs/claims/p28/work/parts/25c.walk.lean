/-! ===== the class's cursor: enters, goes on; one way followed ===== -/
theorem atI_cell {f : Nat → Int32} {q : Nat} (h : q < 49) : atI f 49 (Int32.ofNat q) = f q := atI_oN h (Nat.le_of_ble_eq_true rfl)
theorem b2_ofNat (b : Bool) : b2 b = Int32.ofNat (if b then 1 else 0) := by cases b <;> rfl
theorem le_y {a b : Nat} (h : a ≤ b) (hb : b < 2 ^ 31) : Int32.ofNat a ≤ Int32.ofNat b := (oN_le (by omega) hb).mpr h
theorem le_n {a b : Nat} (h : b < a) (ha : a < 2 ^ 31) : ¬ Int32.ofNat a ≤ Int32.ofNat b := by rw [oN_le ha (by omega)]; omega
theorem lt_y {a b : Nat} (h : a < b) (hb : b < 2 ^ 31) : Int32.ofNat a < Int32.ofNat b := (oN_lt (by omega) hb).mpr h
theorem lt_n {a b : Nat} (h : b ≤ a) (ha : a < 2 ^ 31) : ¬ Int32.ofNat a < Int32.ofNat b := by rw [oN_lt ha (by omega)]; omega
theorem z_le {a : Nat} (h : a < 2 ^ 31) : 0 ≤ Int32.ofNat a := Int32.not_lt.mp (oN_nneg h)
theorem m1_lt {a : Nat} (h : a < 2 ^ 31) : (-1 : Int32) < Int32.ofNat a := by
  rw [Int32.lt_iff_toInt_lt, oN_toInt h, show (-1 : Int32).toInt = -1 from by decide]
  omega
def cur3 (I : HI) (s : Pos) : HI := w2 (w2 (w2 I 36 0 (Int32.ofNat s.1)) 36 1 (Int32.ofNat s.2.1)) 36 2 (Int32.ofNat s.2.2)
def Cur (I : HI) (s : Pos) : Prop := I 36 0 = Int32.ofNat s.1 ∧ I 36 1 = Int32.ofNat s.2.1 ∧ I 36 2 = Int32.ofNat s.2.2
theorem cur3_cur (I : HI) (s : Pos) : Cur (cur3 I s) s := ⟨rfl, rfl, rfl⟩
theorem w2_ne (I : HI) {a k a' k' : Nat} (v : Int32) (h : a' ≠ a) : w2 I a k v a' k' = I a' k' := by rw [w2_other I k v h]
theorem cur3_ne (I : HI) (s : Pos) {a : Nat} (h : a ≠ 36) : cur3 I s a = I a := by
  unfold cur3
  rw [w2_other _ _ _ h, w2_other _ _ _ h, w2_other _ _ _ h]
theorem enter_eq {I : HI} {W H g : Nat} (hS : Stn I W H) (hg : g < 2 * (W + H)) : fI_X1_enter (Int32.ofNat g) I = cur3 I (ent W H g) := by
  have b := hS.g28
  unfold fI_X1_enter
  have e0 : (2 : Int32) * I 2 0 = Int32.ofNat (2 * W) := by rw [hS.1]; exact oN_mul 2 W
  have e1 : I 2 0 + I 2 1 = Int32.ofNat (W + H) := by rw [hS.1, hS.2.1, oN_add]
  have e2 : (2 : Int32) * I 2 0 + I 2 1 = Int32.ofNat (2 * W + H) := by rw [e0, hS.2.1, oN_add]
  rw [e1, e2, e0, hS.1, hS.2.1]
  unfold ent
  by_cases h1 : g < W
  · rw [if_neg (le_n (by omega) (by omega)), if_pos h1]; rfl
  · rw [if_pos (le_y (by omega) (by omega)), if_neg h1]
    by_cases h2 : g < W + H
    · rw [if_neg (le_n (by omega) (by omega)), if_pos h2, oN_sub (by omega)]
      have : Int32.ofNat W - 1 = Int32.ofNat (W - 1) := oN_sub (b := 1) (by have := hS.2.2.1.1; omega)
      rw [this]; rfl
    · rw [if_pos (le_y (by omega) (by omega)), if_neg h2]
      by_cases h3 : g < 2 * W + H
      · rw [if_neg (le_n (by omega) (by omega)), if_pos h3, oN_sub (by omega), oN_sub (by omega)]
        have : Int32.ofNat H - 1 = Int32.ofNat (H - 1) := oN_sub (b := 1) (by have := hS.2.2.2.1; omega)
        rw [this]; rfl
      · rw [if_pos (le_y (by omega) (by omega)), if_neg h3, oN_sub (by omega), oN_sub (by omega)]; rfl
theorem dir_eq {I : HI} {s : Pos} (v : Int32) (hC : Cur I s) (hd : s.2.2 < 4) : f_X1_directionBehind v I = Int32.ofNat (trn v s.2.2) := by
  unfold f_X1_directionBehind trn
  rw [hC.2.2]
  by_cases h1 : v = 47
  · rw [if_pos h1, if_pos h1]
    rcases lt4 hd with h | h | h | h <;> rw [h] <;> rfl
  · rw [if_neg h1, if_neg h1]
    by_cases h2 : v = 92
    · rw [if_pos h2, if_pos h2]
      rcases lt4 hd with h | h | h | h <;> rw [h] <;> rfl
    · rw [if_neg h2, if_neg h2]
/-- what a step leaves: a place inside and no gate, or the gate -/
def GStp (I : HI) (W H : Nat) (r c d : Nat) : Prop := match mv W H r c d with
  | .inl t => Cur I t ∧ f_X1_gateBehind I = -1
  | .inr q => f_X1_gateBehind I = Int32.ofNat q
theorem gate_in {I : HI} {W H : Nat} {t : Pos} (hS : Stn I W H) (hC : Cur I t) (ht : inS W H t) : f_X1_gateBehind I = -1 := by
  have b := hS.g28
  unfold f_X1_gateBehind
  have h1 := ht.1
  have h2 := ht.2.1
  rw [hC.1, hC.2.1, hS.1, hS.2.1, if_pos (z_le (by omega)), if_pos (lt_y h2 (by omega)), if_pos (lt_y h1 (by omega)), if_pos (z_le (by omega))]
section GO
variable {d nn Ln : Nat} {fz : Nat} {K : Post} {I : HI} {J : HJ} {W H : Nat}
theorem sp_goOn {s : Pos} {v : Int32} (hn : 59 ≤ nn) (hS : Stn I W H) (hC : Cur I s) (hs : inS W H s) (hK : ∀ I', (∀ a, a ≠ 36 → I' a = I a) → GStp I' W H s.1 s.2.1 (trn v s.2.2) → K (.inl none) (hp fz nn (lay Ln) I' J)) : cal (d + 2) 22 [.ref 36, .int v] (hp fz nn (lay Ln) I J) K := by
  refine call_in (Nat.le_of_ble_eq_true rfl) rfl rfl (r_22_0 hn ?_)
  have b := hS.g28
  have e := dir_eq v hC hs.2.2
  rw [e]
  have hd := trn_lt v hs.2.2
  have hS' : ∀ (I' : HI), (∀ a, a ≠ 36 → I' a = I a) → Stn I' W H := fun I' h => by
    have := h 2 (by decide)
    exact ⟨by rw [this]; exact hS.1, by rw [this]; exact hS.2.1, hS.2.2⟩
  have hr := hs.1
  have hc := hs.2.1
  have h2W := hS.2.2.1
  have h2H := hS.2.2.2
  have hfr : ∀ (q : Nat) (x y : Int32) (a : Nat), a ≠ 36 → w2 (w2 I 36 2 x) 36 q y a = I a := fun q x y a h => by rw [w2_other _ _ _ h, w2_other _ _ _ h]
  have key : ∀ (q : Nat) (x : Int32) (t : Pos), mv W H s.1 s.2.1 (trn v s.2.2) = .inl t → Cur (w2 (w2 I 36 2 (Int32.ofNat (trn v s.2.2))) 36 q x) t → GStp (w2 (w2 I 36 2 (Int32.ofNat (trn v s.2.2))) 36 q x) W H s.1 s.2.1 (trn v s.2.2) := by
    intro q x t h1 h2
    unfold GStp
    rw [h1]
    exact ⟨h2, gate_in (hS' _ (hfr _ _ _)) h2 (mv_in hr hc hd h1).1⟩
  generalize hdd : trn v s.2.2 = dd at *
  rcases lt4 hd with h | h | h | h <;> subst h
  · refine e_tsw (cx cd_22_13 rfl rfl) (if_n (by decide) (r_22_40 hn (hK _ (hfr _ _ _) ?_)))
    by_cases h0 : s.1 = 0
    · have h1 : mv W H s.1 s.2.1 0 = .inr s.2.1 := by unfold mv; rw [if_pos rfl, if_pos h0]
      unfold GStp
      rw [h1]
      show f_X1_gateBehind _ = _
      unfold f_X1_gateBehind
      have e1 : w2 (w2 I 36 2 (Int32.ofNat 0)) 36 0 ((w2 I 36 2 (Int32.ofNat 0)) 36 0 - 1) 36 0 = -1 := by
        show I 36 0 - 1 = -1
        rw [hC.1, h0]; rfl
      rw [e1, if_neg (by decide)]
      exact hC.2.1
    · refine key _ _ (s.1 - 1, s.2.1, 0) (by unfold mv; rw [if_pos rfl, if_neg h0]) ⟨?_, hC.2.1, rfl⟩
      show I 36 0 - 1 = _
      rw [hC.1]
      exact oN_sub (b := 1) (by omega)
  · refine e_tsw (cx cd_22_13 rfl rfl) (if_n (by decide) (r_22_53 hn (hK _ (hfr _ _ _) ?_)))
    have e1 : I 36 1 + 1 = Int32.ofNat (s.2.1 + 1) := by rw [hC.2.1]; exact oN_succ _
    by_cases h0 : s.2.1 + 1 = W
    · have h1 : mv W H s.1 s.2.1 1 = .inr (W + s.1) := by unfold mv; rw [if_neg (by decide), if_pos rfl, if_pos h0]
      unfold GStp
      rw [h1]
      show f_X1_gateBehind _ = _
      unfold f_X1_gateBehind
      show (if 0 ≤ I 36 0 then if I 36 1 + 1 < I 2 0 then _ else I 2 0 + I 36 0 else _) = _
      rw [e1, hC.1, hS.1, if_pos (z_le (by omega)), if_neg (lt_n (by omega) (by omega)), oN_add]
    · exact key _ _ (s.1, s.2.1 + 1, 1) (by unfold mv; rw [if_neg (by decide), if_pos rfl, if_neg h0]) ⟨hC.1, e1, rfl⟩
  · refine e_tsw (cx cd_22_13 rfl rfl) (if_n (by decide) (r_22_66 hn (hK _ (hfr _ _ _) ?_)))
    have e1 : I 36 0 + 1 = Int32.ofNat (s.1 + 1) := by rw [hC.1]; exact oN_succ _
    by_cases h0 : s.1 + 1 = H
    · have h1 : mv W H s.1 s.2.1 2 = .inr (W + H + s.2.1) := by unfold mv; rw [if_neg (by decide), if_neg (by decide), if_pos rfl, if_pos h0]
      unfold GStp
      rw [h1]
      show f_X1_gateBehind _ = _
      unfold f_X1_gateBehind
      show (if 0 ≤ I 36 0 + 1 then if I 36 1 < I 2 0 then if I 36 0 + 1 < I 2 1 then _ else I 2 0 + I 2 1 + I 36 1 else _ else _) = _
      rw [e1, hC.2.1, hS.1, hS.2.1, if_pos (z_le (by omega)), if_pos (lt_y (by omega) (by omega)), if_neg (lt_n (by omega) (by omega)), oN_add, oN_add]
    · exact key _ _ (s.1 + 1, s.2.1, 2) (by unfold mv; rw [if_neg (by decide), if_neg (by decide), if_pos rfl, if_neg h0]) ⟨e1, hC.2.1, rfl⟩
  · refine e_tsw (cx cd_22_13 rfl rfl) (if_y (by decide) (r_22_79 hn (hK _ (hfr _ _ _) ?_)))
    by_cases h0 : s.2.1 = 0
    · have h1 : mv W H s.1 s.2.1 3 = .inr (2 * W + H + s.1) := by unfold mv; rw [if_neg (by decide), if_neg (by decide), if_neg (by decide), if_pos h0]
      unfold GStp
      rw [h1]
      show f_X1_gateBehind _ = _
      unfold f_X1_gateBehind
      have e1 : I 36 1 - 1 = -1 := by
        rw [hC.2.1, h0]; rfl
      show (if 0 ≤ I 36 0 then if I 36 1 - 1 < I 2 0 then if I 36 0 < I 2 1 then if 0 ≤ I 36 1 - 1 then _ else 2 * I 2 0 + I 2 1 + I 36 0 else _ else _ else _) = _
      have e2 : (2 : Int32) * Int32.ofNat W = Int32.ofNat (2 * W) := oN_mul 2 W
      rw [e1, hC.1, hS.1, hS.2.1, if_pos (z_le (by omega)), if_pos (m1_lt (by omega)), if_pos (lt_y (by omega) (by omega)), if_neg (by decide), e2, oN_add, oN_add]
    · refine key _ _ (s.1, s.2.1 - 1, 3) (by unfold mv; rw [if_neg (by decide), if_neg (by decide), if_neg (by decide), if_neg h0]) ⟨hC.1, ?_, rfl⟩
      show I 36 1 - 1 = _
      rw [hC.2.1]
      exact oN_sub (b := 1) (by omega)
end GO
