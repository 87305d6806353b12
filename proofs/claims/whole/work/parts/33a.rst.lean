/-! ===== the reference's state; a way walked ===== -/
theorem f9_in (p a b : Int32) : f_X9_in p a b = b2 (wi p a b) := f_within p a b
theorem n_sub1 {n : Nat} (hn : n < 2 ^ 31) : (Int32.ofNat n - 1).toInt = (n : Int) - 1 := by
  cases n with
  | zero => decide
  | succ n =>
    have : Int32.ofNat (n + 1) - 1 = Int32.ofNat n := oN_sub (b := 1) (by omega)
    rw [this, oN_toInt (by omega)]
    omega
theorem wi_in {p : Int32} {n : Nat} (hn : n < 2 ^ 31) : wi p 0 (Int32.ofNat n - 1) = inN p n := by
  unfold wi inN
  congr 1
  apply decide_eq_decide.mpr
  rw [Int32.le_iff_toInt_le, Int32.lt_iff_toInt_lt, n_sub1 hn, oN_toInt hn]
  omega
theorem f9_rune (p : Int32) : f_X9_isRune p = b2 (isRB p) := by
  unfold f_X9_isRune
  rw [f9_in, f9_in]
  show _ = b2 (isLB p || isSB p)
  have e1 : wi p 97 122 = isLB p := rfl
  have e2 : wi p 65 90 = isSB p := rfl
  rw [e1, e2]
  cases isLB p <;> cases isSB p <;> decide
theorem f9_corner (p : Int32) : f_X9_isCorner p = b2 (isCB p) := f_corner p
theorem f9_byte (p : Int32) : f_X9_isByte p = b2 (isOB p) := by
  unfold f_X9_isByte
  rw [f9_in, f9_in]
  have e1 : wi p 97 122 = isLB p := rfl
  have e2 : wi p 65 90 = isSB p := rfl
  rw [e1, e2]
  unfold isOB isRB isCB b2
  by_cases h1 : p = 46
  · simp [h1]
  · by_cases h2 : p = 47
    · simp [h2]
    · by_cases h3 : p = 92
      · simp [h3]
      · by_cases h4 : p = 35
        · simp [h4]
        · by_cases h5 : p = 58
          · simp [h5]
          · simp only [h1, h2, h3, h4, h5, if_false, decide_false, Bool.or_false]
            cases isLB p <;> cases isSB p <;> simp
/-- a state in a row of numbers -/
def RowR (f : Nat → Int32) (o : Nat) (v : Sav) : Prop :=
  (f o = Int32.ofNat v.1.1) ∧
  (f (o + 1) = Int32.ofNat v.1.2.1) ∧
  (2 ≤ v.1.1 ∧ v.1.1 ≤ 7) ∧
  (2 ≤ v.1.2.1 ∧ v.1.2.1 ≤ 7) ∧
  (∀ c, c < v.1.1 * v.1.2.1 → f (o + (2 + c)) = v.1.2.2 c) ∧
  (f (o + 51) = Int32.ofNat v.2.1) ∧
  (v.2.1 ≤ 8) ∧
  (∀ i, i < v.2.1 → f (o + (52 + 9 * i)) = Int32.ofNat (v.2.2.1 i)) ∧
  (∀ i, i < v.2.1 → 1 ≤ v.2.2.1 i ∧ v.2.2.1 i ≤ 8) ∧
  (∀ i, i < v.2.1 → ∀ k, k < v.2.2.1 i → f (o + (53 + 9 * i + k)) = v.2.2.2 i k - 97)
theorem RowR.w {f : Nat → Int32} {o : Nat} {v : Sav} (h : RowR f o v) : f o = Int32.ofNat v.1.1 := h.1
theorem RowR.h {f : Nat → Int32} {o : Nat} {v : Sav} (h : RowR f o v) : f (o + 1) = Int32.ofNat v.1.2.1 := h.2.1
theorem RowR.ws {f : Nat → Int32} {o : Nat} {v : Sav} (h : RowR f o v) : 2 ≤ v.1.1 ∧ v.1.1 ≤ 7 := h.2.2.1
theorem RowR.hs {f : Nat → Int32} {o : Nat} {v : Sav} (h : RowR f o v) : 2 ≤ v.1.2.1 ∧ v.1.2.1 ≤ 7 := h.2.2.2.1
theorem RowR.cl {f : Nat → Int32} {o : Nat} {v : Sav} (h : RowR f o v) : ∀ c, c < v.1.1 * v.1.2.1 → f (o + (2 + c)) = v.1.2.2 c := h.2.2.2.2.1
theorem RowR.n {f : Nat → Int32} {o : Nat} {v : Sav} (h : RowR f o v) : f (o + 51) = Int32.ofNat v.2.1 := h.2.2.2.2.2.1
theorem RowR.n8 {f : Nat → Int32} {o : Nat} {v : Sav} (h : RowR f o v) : v.2.1 ≤ 8 := h.2.2.2.2.2.2.1
theorem RowR.ln {f : Nat → Int32} {o : Nat} {v : Sav} (h : RowR f o v) : ∀ i, i < v.2.1 → f (o + (52 + 9 * i)) = Int32.ofNat (v.2.2.1 i) := h.2.2.2.2.2.2.2.1
theorem RowR.l8 {f : Nat → Int32} {o : Nat} {v : Sav} (h : RowR f o v) : ∀ i, i < v.2.1 → 1 ≤ v.2.2.1 i ∧ v.2.2.1 i ≤ 8 := h.2.2.2.2.2.2.2.2.1
theorem RowR.lt {f : Nat → Int32} {o : Nat} {v : Sav} (h : RowR f o v) : ∀ i, i < v.2.1 → ∀ k, k < v.2.2.1 i → f (o + (53 + 9 * i + k)) = v.2.2.2 i k - 97 := h.2.2.2.2.2.2.2.2.2
theorem RowR.mk {f : Nat → Int32} {o : Nat} {v : Sav} (c_w : f o = Int32.ofNat v.1.1) (c_h : f (o + 1) = Int32.ofNat v.1.2.1) (c_ws : 2 ≤ v.1.1 ∧ v.1.1 ≤ 7) (c_hs : 2 ≤ v.1.2.1 ∧ v.1.2.1 ≤ 7) (c_cl : ∀ c, c < v.1.1 * v.1.2.1 → f (o + (2 + c)) = v.1.2.2 c) (c_n : f (o + 51) = Int32.ofNat v.2.1) (c_n8 : v.2.1 ≤ 8) (c_ln : ∀ i, i < v.2.1 → f (o + (52 + 9 * i)) = Int32.ofNat (v.2.2.1 i)) (c_l8 : ∀ i, i < v.2.1 → 1 ≤ v.2.2.1 i ∧ v.2.2.1 i ≤ 8) (c_lt : ∀ i, i < v.2.1 → ∀ k, k < v.2.2.1 i → f (o + (53 + 9 * i + k)) = v.2.2.2 i k - 97) : RowR f o v := ⟨c_w, c_h, c_ws, c_hs, c_cl, c_n, c_n8, c_ln, c_l8, c_lt⟩
theorem RowR.mono {f f' : Nat → Int32} {o o' : Nat} {v : Sav} (h : RowR f o v) (hf : ∀ k, k < 124 → f' (o' + k) = f (o + k)) : RowR f' o' v := by
  have h49 : v.1.1 * v.1.2.1 ≤ 49 := n49 h.ws.2 h.hs.2
  have h8 := h.n8
  refine RowR.mk ?_ ?_ h.ws h.hs (fun c hc => ?_) ?_ h.n8 (fun i hi => ?_) h.l8 (fun i hi k hk => ?_)
  · have := hf 0 (by omega)
    rw [Nat.add_zero, Nat.add_zero] at this
    rw [this]; exact h.w
  · rw [hf 1 (by omega)]; exact h.h
  · rw [hf _ (by omega)]; exact h.cl c hc
  · rw [hf _ (by omega)]; exact h.n
  · rw [hf _ (by omega)]; exact h.ln i hi
  · have := h.l8 i hi
    rw [hf _ (by omega)]; exact h.lt i hi k hk
/-- the stone that stands now -/
def NowR (I : HI) (W H : Nat) (C : Cel) : Prop :=
  (I 60 0 = Int32.ofNat W) ∧
  (I 60 1 = Int32.ofNat H) ∧
  (2 ≤ W ∧ W ≤ 7) ∧
  (2 ≤ H ∧ H ≤ 7) ∧
  (∀ c, c < W * H → I 60 (2 + c) = C c)
theorem NowR.w {I : HI} {W H : Nat} {C : Cel} (h : NowR I W H C) : I 60 0 = Int32.ofNat W := h.1
theorem NowR.h {I : HI} {W H : Nat} {C : Cel} (h : NowR I W H C) : I 60 1 = Int32.ofNat H := h.2.1
theorem NowR.ws {I : HI} {W H : Nat} {C : Cel} (h : NowR I W H C) : 2 ≤ W ∧ W ≤ 7 := h.2.2.1
theorem NowR.hs {I : HI} {W H : Nat} {C : Cel} (h : NowR I W H C) : 2 ≤ H ∧ H ≤ 7 := h.2.2.2.1
theorem NowR.cl {I : HI} {W H : Nat} {C : Cel} (h : NowR I W H C) : ∀ c, c < W * H → I 60 (2 + c) = C c := h.2.2.2.2
theorem NowR.mk {I : HI} {W H : Nat} {C : Cel} (c_w : I 60 0 = Int32.ofNat W) (c_h : I 60 1 = Int32.ofNat H) (c_ws : 2 ≤ W ∧ W ≤ 7) (c_hs : 2 ≤ H ∧ H ≤ 7) (c_cl : ∀ c, c < W * H → I 60 (2 + c) = C c) : NowR I W H C := ⟨c_w, c_h, c_ws, c_hs, c_cl⟩
theorem NowR.mono {I I' : HI} {W H : Nat} {C : Cel} (h : NowR I W H C) (h2 : I' 60 = I 60) : NowR I' W H C := NowR.mk (by rw [h2]; exact h.w) (by rw [h2]; exact h.h) h.ws h.hs (fun c hc => by rw [h2]; exact h.cl c hc)
theorem NowR.n {I : HI} {W H : Nat} {C : Cel} (h : NowR I W H C) : W * H ≤ 49 := n49 h.ws.2 h.hs.2
theorem NowR.wh {I : HI} {W H : Nat} {C : Cel} (h : NowR I W H C) : I 60 0 * I 60 1 = Int32.ofNat (W * H) := by rw [h.w, h.h, oN_mul]
theorem NowR.gt {I : HI} {W H : Nat} {C : Cel} (h : NowR I W H C) : 2 * (I 60 0 + I 60 1) = Int32.ofNat (2 * (W + H)) := by
  rw [h.w, h.h, oN_add]
  exact oN_mul 2 (W + H)
theorem NowR.g28 {I : HI} {W H : Nat} {C : Cel} (h : NowR I W H C) : 2 * (W + H) ≤ 28 := by
  have := h.ws.2
  have := h.hs.2
  omega
theorem NowR.W0 {I : HI} {W H : Nat} {C : Cel} (h : NowR I W H C) : 0 < W := by have := h.ws.1; omega
theorem NowR.H0 {I : HI} {W H : Nat} {C : Cel} (h : NowR I W H C) : 0 < H := by have := h.hs.1; omega
/-- the reference's whole state -/
def RfS (I : HI) (W H : Nat) (C : Cel) (w : Wds) (hs : List Sav) (t : Nat) (T : Nat → Int32) : Prop :=
  (RowR (I 60) 0 ((W, H, C), w)) ∧
  (I 59 3 = Int32.ofNat hs.length) ∧
  (hs.length ≤ 4) ∧
  (∀ j v, hs[j]? = some v → RowR (I 61) (124 * (hs.length - 1 - j)) v) ∧
  (I 59 6 = Int32.ofNat t) ∧
  (t ≤ 60) ∧
  (∀ k, k < t → I 63 k = T k)
theorem RfS.row {I : HI} {W H : Nat} {C : Cel} {w : Wds} {hs : List Sav} {t : Nat} {T : Nat → Int32} (h : RfS I W H C w hs t T) : RowR (I 60) 0 ((W, H, C), w) := h.1
theorem RfS.sv {I : HI} {W H : Nat} {C : Cel} {w : Wds} {hs : List Sav} {t : Nat} {T : Nat → Int32} (h : RfS I W H C w hs t T) : I 59 3 = Int32.ofNat hs.length := h.2.1
theorem RfS.s4 {I : HI} {W H : Nat} {C : Cel} {w : Wds} {hs : List Sav} {t : Nat} {T : Nat → Int32} (h : RfS I W H C w hs t T) : hs.length ≤ 4 := h.2.2.1
theorem RfS.ps {I : HI} {W H : Nat} {C : Cel} {w : Wds} {hs : List Sav} {t : Nat} {T : Nat → Int32} (h : RfS I W H C w hs t T) : ∀ j v, hs[j]? = some v → RowR (I 61) (124 * (hs.length - 1 - j)) v := h.2.2.2.1
theorem RfS.tn {I : HI} {W H : Nat} {C : Cel} {w : Wds} {hs : List Sav} {t : Nat} {T : Nat → Int32} (h : RfS I W H C w hs t T) : I 59 6 = Int32.ofNat t := h.2.2.2.2.1
theorem RfS.t60 {I : HI} {W H : Nat} {C : Cel} {w : Wds} {hs : List Sav} {t : Nat} {T : Nat → Int32} (h : RfS I W H C w hs t T) : t ≤ 60 := h.2.2.2.2.2.1
theorem RfS.ta {I : HI} {W H : Nat} {C : Cel} {w : Wds} {hs : List Sav} {t : Nat} {T : Nat → Int32} (h : RfS I W H C w hs t T) : ∀ k, k < t → I 63 k = T k := h.2.2.2.2.2.2
theorem RfS.mk {I : HI} {W H : Nat} {C : Cel} {w : Wds} {hs : List Sav} {t : Nat} {T : Nat → Int32} (c_row : RowR (I 60) 0 ((W, H, C), w)) (c_sv : I 59 3 = Int32.ofNat hs.length) (c_s4 : hs.length ≤ 4) (c_ps : ∀ j v, hs[j]? = some v → RowR (I 61) (124 * (hs.length - 1 - j)) v) (c_tn : I 59 6 = Int32.ofNat t) (c_t60 : t ≤ 60) (c_ta : ∀ k, k < t → I 63 k = T k) : RfS I W H C w hs t T := ⟨c_row, c_sv, c_s4, c_ps, c_tn, c_t60, c_ta⟩
theorem RfS.now {I : HI} {W H : Nat} {C : Cel} {w : Wds} {hs : List Sav} {t : Nat} {T : Nat → Int32} (h : RfS I W H C w hs t T) : NowR I W H C :=
  NowR.mk h.row.w (by have := h.row.h; rw [Nat.zero_add] at this; exact this) h.row.ws h.row.hs (fun c hc => by have := h.row.cl c hc; rw [Nat.zero_add] at this; exact this)
/-- what the reference's questions change -/
def RQ (I : HI) (J : HJ) (I' : HI) (J' : HJ) : Prop := (∀ a k, a < 59 ∨ a = 60 ∨ a = 61 ∨ a = 63 ∨ (a = 59 ∧ (k = 3 ∨ k = 6)) → I' a k = I a k) ∧ ∀ a, a < 59 ∨ a = 74 → J' a = J a
/-- what all its calls leave -/
def RF (I : HI) (J : HJ) (I' : HI) (J' : HJ) : Prop := (∀ a, a < 59 → I' a = I a) ∧ ∀ a, a < 59 ∨ a = 74 → J' a = J a
theorem RQ.f {I I' : HI} {J J' : HJ} (h : RQ I J I' J') : RF I J I' J' := ⟨fun a ha => by funext k; exact h.1 a k (Or.inl ha), h.2⟩
theorem RQ.rf (I : HI) (J : HJ) : RQ I J I J := ⟨fun _ _ _ => rfl, fun _ _ => rfl⟩
theorem RF.rf (I : HI) (J : HJ) : RF I J I J := ⟨fun _ _ => rfl, fun _ _ => rfl⟩
theorem RQ.tr {I I' I'' : HI} {J J' J'' : HJ} (h : RQ I J I' J') (h2 : RQ I' J' I'' J'') : RQ I J I'' J'' := ⟨fun a k q => (h2.1 a k q).trans (h.1 a k q), fun a q => (h2.2 a q).trans (h.2 a q)⟩
theorem RF.tr {I I' I'' : HI} {J J' J'' : HJ} (h : RF I J I' J') (h2 : RF I' J' I'' J'') : RF I J I'' J'' := ⟨fun a q => (h2.1 a q).trans (h.1 a q), fun a q => (h2.2 a q).trans (h.2 a q)⟩
theorem RQ.row {I I' : HI} {J J' : HJ} (h : RQ I J I' J') {a : Nat} (ha : a = 60 ∨ a = 61 ∨ a = 63) : I' a = I a := by
  funext k
  exact h.1 a k (by omega)
theorem RfS.q {I I' : HI} {J J' : HJ} {W H : Nat} {C : Cel} {w : Wds} {hs : List Sav} {t : Nat} {T : Nat → Int32} (h : RfS I W H C w hs t T) (hq : RQ I J I' J') : RfS I' W H C w hs t T :=
  RfS.mk (by rw [hq.row (Or.inl rfl)]; exact h.row) (by rw [hq.1 59 3 (by omega)]; exact h.sv) h.s4 (by rw [hq.row (Or.inr (Or.inl rfl))]; exact h.ps) (by rw [hq.1 59 6 (by omega)]; exact h.tn) h.t60 (by rw [hq.row (Or.inr (Or.inr rfl))]; exact h.ta)
/-- what a walk changes -/
def WkF (I I' : HI) : Prop := ∀ a k, ¬ (a = 64 ∨ a = 65 ∨ (a = 59 ∧ 9 ≤ k ∧ k ≤ 11)) → I' a k = I a k
theorem WkF.rf (I : HI) : WkF I I := fun _ _ _ => rfl
theorem WkF.tr {I I' I'' : HI} (h : WkF I I') (h2 : WkF I' I'') : WkF I I'' := fun a k q => (h2 a k q).trans (h a k q)
theorem WkF.row {I I' : HI} (h : WkF I I') {a : Nat} (ha : a ≠ 59 ∧ a ≠ 64 ∧ a ≠ 65) : I' a = I a := by
  funext k
  exact h a k (by omega)
theorem WkF.q {I I' : HI} {J : HJ} (h : WkF I I') : RQ I J I' J := ⟨fun a k q => h a k (by omega), fun _ _ => rfl⟩
/-- the way that was walked, the first i places -/
def WkI (W H : Nat) (C : Cel) (I : HI) (g i : Nat) : Prop :=
  (I 59 9 = Int32.ofNat i) ∧
  (I 59 11 = Int32.ofNat (cntB (fun j => isCB (C (pC W H C g j))) i)) ∧
  (∀ k, k < i → I 64 k = Int32.ofNat (pC W H C g k)) ∧
  (∀ k, k < i → I 65 k = b2 (decide (pD4 W H C g k % 2 = 1)))
theorem WkI.st {W H : Nat} {C : Cel} {I : HI} {g i : Nat} (h : WkI W H C I g i) : I 59 9 = Int32.ofNat i := h.1
theorem WkI.tn {W H : Nat} {C : Cel} {I : HI} {g i : Nat} (h : WkI W H C I g i) : I 59 11 = Int32.ofNat (cntB (fun j => isCB (C (pC W H C g j))) i) := h.2.1
theorem WkI.pa {W H : Nat} {C : Cel} {I : HI} {g i : Nat} (h : WkI W H C I g i) : ∀ k, k < i → I 64 k = Int32.ofNat (pC W H C g k) := h.2.2.1
theorem WkI.ir {W H : Nat} {C : Cel} {I : HI} {g i : Nat} (h : WkI W H C I g i) : ∀ k, k < i → I 65 k = b2 (decide (pD4 W H C g k % 2 = 1)) := h.2.2.2
theorem WkI.mk {W H : Nat} {C : Cel} {I : HI} {g i : Nat} (c_st : I 59 9 = Int32.ofNat i) (c_tn : I 59 11 = Int32.ofNat (cntB (fun j => isCB (C (pC W H C g j))) i)) (c_pa : ∀ k, k < i → I 64 k = Int32.ofNat (pC W H C g k)) (c_ir : ∀ k, k < i → I 65 k = b2 (decide (pD4 W H C g k % 2 = 1))) : WkI W H C I g i := ⟨c_st, c_tn, c_pa, c_ir⟩
def Wk (W H : Nat) (C : Cel) (I : HI) (g : Nat) : Prop :=
  (WkI W H C I g (bN W H C g)) ∧
  (I 59 10 = bE W H C g)
theorem Wk.wi {W H : Nat} {C : Cel} {I : HI} {g : Nat} (h : Wk W H C I g) : WkI W H C I g (bN W H C g) := h.1
theorem Wk.en {W H : Nat} {C : Cel} {I : HI} {g : Nat} (h : Wk W H C I g) : I 59 10 = bE W H C g := h.2
theorem Wk.mk {W H : Nat} {C : Cel} {I : HI} {g : Nat} (c_wi : WkI W H C I g (bN W H C g)) (c_en : I 59 10 = bE W H C g) : Wk W H C I g := ⟨c_wi, c_en⟩
section WLK
variable {d nn Ln : Nat} {fz : Bool} {K : Post} {I : HI} {J : HJ} {W H : Nat} {C : Cel} {g : Nat}
theorem sp_at9 {c : Nat} (hn : 74 ≤ nn) (hN : NowR I W H C) (hc : c < W * H) (hK : K (.inl (some (.int (C c)))) (hp fz nn (lay Ln) I J)) : cal (d + 1) 139 [.ref 59, .int (Int32.ofNat c)] (hp fz nn (lay Ln) I J) K := by
  have h49 := hN.n
  have e : (2 : Int32) + Int32.ofNat c = Int32.ofNat (2 + c) := oN_add 2 c
  refine call_in (Nat.le_of_ble_eq_true rfl) rfl rfl (r_139_0 hn ?_)
  rw [e, oN_clamp (by omega), hN.cl c hc]
  exact ⟨oN_vin (by omega) (by decide), hK⟩
theorem wi_y {a n : Nat} (h : a < n) (hn : n < 2 ^ 31) : wi (Int32.ofNat a) 0 (Int32.ofNat n - 1) = true := by
  rw [wi_in hn]
  unfold inN
  rw [decide_eq_true (z_le (by omega)), decide_eq_true (lt_y h hn)]; rfl
theorem wi_n1 {n : Nat} : wi (-1) 0 (Int32.ofNat n - 1) = false := by
  unfold wi
  rw [decide_eq_false (show ¬ (0 : Int32) ≤ -1 by decide)]; rfl
theorem wi_nn {n : Nat} (hn : n < 2 ^ 31) : wi (Int32.ofNat n) 0 (Int32.ofNat n - 1) = false := by
  rw [wi_in hn]
  unfold inN
  rw [decide_eq_false (Int32.lt_irrefl : ¬ Int32.ofNat n < Int32.ofNat n), Bool.and_false]
/-- one step on, behind the turn; x7: whether it goes -/
theorem wk_go {s : Pos} {e : Nat} (hn : 74 ≤ nn) {v : Int32} (hW : 2 ≤ W ∧ W ≤ 7) (hH : 2 ≤ H ∧ H ≤ 7) (hr : s.1 < H) (hc : s.2.1 < W) (he : e < 4)
    (h1 : ∀ t, mv W H s.1 s.2.1 e = .inl t → EX (cal (d + 1)) 160 K 148 [some (.ref 59), none, some (.int (Int32.ofNat W)), some (.int (Int32.ofNat H)), some (.int (Int32.ofNat (opp e))), some (.int (Int32.ofNat t.1)), some (.int (Int32.ofNat t.2.1)), some (.int 1), none] [] (0, 0) (hp fz nn (lay Ln) I J))
    (h2 : ∀ q, mv W H s.1 s.2.1 e = .inr q → K (.inl none) (hp fz nn (lay Ln) (w2 I 59 10 (Int32.ofNat q)) J)) :
    EX (cal (d + 1)) 160 K 279 [some (.ref 59), none, some (.int (Int32.ofNat W)), some (.int (Int32.ofNat H)), some (.int (Int32.ofNat (opp e))), some (.int (Int32.ofNat s.1)), some (.int (Int32.ofNat s.2.1)), some (.int 1), some (.int v)] [] (0, 0) (hp fz nn (lay Ln) I J) := by
  have z0 : ∀ x : Int32, x + 0 = x := fun x => Int32.add_zero x
  have m1 : ∀ a : Nat, 0 < a → Int32.ofNat a + (-1) = Int32.ofNat (a - 1) := fun a ha => by
    have : Int32.ofNat a + (-1) = Int32.ofNat a - 1 := by rw [Int32.sub_eq_add_neg]
    rw [this]; exact oN_sub (b := 1) ha
  have m0 : Int32.ofNat 0 + (-1) = -1 := by decide
  have y2 : ∀ a : Nat, 0 ≤ Int32.ofNat a ∨ ¬ a < 2 ^ 31 := fun a => by
    by_cases h : a < 2 ^ 31
    · exact Or.inl (z_le h)
    · exact Or.inr h
  rcases lt4 he with rfl | rfl | rfl | rfl
  · -- up: r - 1
    unfold mv at h1 h2
    rw [if_pos rfl] at h1 h2
    refine r_160_279 hn (if_n (by decide) (if_y rfl (r_160_304 hn (if_n (by decide) (if_n (by decide) ?_)))))
    rw [z0]
    by_cases q : s.1 = 0
    · rw [if_pos q] at h2
      have h2 := h2 _ rfl
      rw [q, m0]
      refine r_160_148 hn (if_n (by decide) ?_)
      rw [f9_in, wi_n1]
      exact if_y rfl (if_n (by decide) h2)
    · rw [if_neg q] at h1
      rw [m1 _ (by omega)]
      exact h1 _ rfl
  · -- right: c + 1
    unfold mv at h1 h2
    rw [if_neg (by decide), if_pos rfl] at h1 h2
    refine r_160_279 hn (if_n (by decide) (if_n (by decide) (r_160_304 hn (if_y rfl ?_))))
    rw [z0, oN_succ]
    by_cases q : s.2.1 + 1 = W
    · rw [if_pos q] at h2
      have h2 := h2 _ rfl
      refine r_160_148 hn (if_n (by decide) ?_)
      rw [f9_in, f9_in, wi_y hr (by omega), q, wi_nn (by omega)]
      refine if_n (by decide) (if_y rfl (if_y (z_le (by omega)) (if_y rfl ?_)))
      rw [oN_add]
      exact h2
    · rw [if_neg q] at h1
      exact h1 _ rfl
  · -- down: r + 1
    unfold mv at h1 h2
    rw [if_neg (by decide), if_neg (by decide), if_pos rfl] at h1 h2
    refine r_160_279 hn (if_y rfl (r_160_304 hn (if_n (by decide) (if_n (by decide) ?_))))
    rw [z0, oN_succ]
    by_cases q : s.1 + 1 = H
    · rw [if_pos q] at h2
      have h2 := h2 _ rfl
      refine r_160_148 hn (if_n (by decide) ?_)
      rw [f9_in, q, wi_nn (by omega)]
      refine if_y rfl (if_y (z_le (by omega)) (if_n (fun z => ?_) (if_y rfl ?_)))
      · have := (oN_eq (by omega) (by omega)).mp z
        omega
      · rw [oN_add, oN_add]
        exact h2
    · rw [if_neg q] at h1
      exact h1 _ rfl
  · -- left: c - 1
    unfold mv at h1 h2
    rw [if_neg (by decide), if_neg (by decide), if_neg (by decide)] at h1 h2
    refine r_160_279 hn (if_n (by decide) (if_n (by decide) (r_160_304 hn (if_n (by decide) (if_y rfl ?_)))))
    rw [z0]
    by_cases q : s.2.1 = 0
    · rw [if_pos q] at h2
      have h2 := h2 _ rfl
      refine r_160_148 hn (if_n (by decide) ?_)
      have mm : ¬ (-1 : Int32) = Int32.ofNat W := fun z => g_ne (by omega) z.symm
      rw [f9_in, f9_in, wi_y hr (by omega), q, m0, wi_n1]
      refine if_n (by decide) (if_y rfl (if_y (z_le (by omega)) (if_n mm (if_n (fun z => ?_) ?_))))
      · have := (oN_eq (by omega) (by omega)).mp z
        omega
      · have e2 : (2 : Int32) * Int32.ofNat W = Int32.ofNat (2 * W) := oN_mul 2 W
        rw [e2, oN_add, oN_add]
        exact h2
    · rw [if_neg q] at h1
      rw [m1 _ (by omega)]
      exact h1 _ rfl
theorem turnAt_eq (v : Int32) {e : Nat} (he : e < 4) (hv : isCB v = true) : f_X9_turnAt v (Int32.ofNat (opp e)) = Int32.ofNat (opp (trn v e)) := by
  unfold isCB at hv
  unfold f_X9_turnAt trn
  by_cases h1 : v = 47
  · rw [if_pos h1, if_pos h1]
    rcases lt4 he with rfl | rfl | rfl | rfl <;> decide
  · have h2 : v = 92 := by simpa [h1] using hv
    rw [if_neg h1, if_neg h1, if_pos h2]
    rcases lt4 he with rfl | rfl | rfl | rfl <;> decide
theorem trn_no {v : Int32} {e : Nat} (hv : isCB v = false) : trn v e = e := by
  unfold isCB at hv
  rw [Bool.or_eq_false_iff] at hv
  unfold trn
  rw [if_neg (decide_eq_false_iff_not.mp hv.1), if_neg (decide_eq_false_iff_not.mp hv.2)]
theorem par_eq {e : Nat} (he : e < 4) : (Int32.ofNat (opp e) - Int32.ofNat (opp e) / 2 * 2 = 1) ↔ e % 2 = 1 := by
  rcases lt4 he with rfl | rfl | rfl | rfl <;> decide
theorem lp_walks (hn : 74 ≤ nn) {I0 : HI} (hN : NowR I0 W H C) (hg : g < 2 * (W + H)) (hK : ∀ I', WkF I0 I' → Wk W H C I' g → K (.inl none) (hp fz nn (lay Ln) I' J)) :
    ∀ (m i : Nat) (s : Pos) (I : HI), i + m = 98 → itp W H C g i = some s → WkF I0 I → WkI W H C I g i → I 59 10 = -1 →
      EX (cal (d + 1)) 160 K 148 [some (.ref 59), none, some (.int (Int32.ofNat W)), some (.int (Int32.ofNat H)), some (.int (Int32.ofNat (opp s.2.2))), some (.int (Int32.ofNat s.1)), some (.int (Int32.ofNat s.2.1)), some (.int 1), none] [] (0, 0) (hp fz nn (lay Ln) I J) := by
  have hb := hN.g28
  have h49 := hN.n
  have hW := hN.W0
  have hH := hN.H0
  have hW7 := hN.ws
  have hH7 := hN.hs
  intro m
  induction m with
  | zero =>
    intro i s I him hit
    have := it_bound hW hH hg hit
    omega
  | succ m ih =>
    intro i s I him hit hF hI h10
    have hin := it_in hW hH hg hit
    have hcl := cell_lt hin
    have hNI : NowR I W H C := hN.mono (hF.row (by decide))
    have hpc : pC W H C g i = s.1 * W + s.2.1 := by unfold pC; rw [pS_of hit]
    have hpd : pD4 W H C g i = s.2.2 := by unfold pD4; rw [pS_of hit]
    refine r_160_148 hn (if_n (by decide) ?_)
    rw [f9_in, f9_in, wi_y hin.1 (by omega), wi_y hin.2.1 (by omega), oN_mul, oN_add (s.1 * W) s.2.1]
    refine if_n (by decide) (if_n (by decide) (sp_at9 hn hNI hcl (kc_v rfl rfl (r_160_188 hn ?_))))
    rw [hI.st, oN_clamp (by omega), oN_mul s.1 W, oN_add (s.1 * W) s.2.1]
    refine ⟨oN_vin (by omega) (by decide), ?_⟩
    generalize hv9 : C (s.1 * W + s.2.1) = v
    -- one form for both
    have main : ∀ z : Int32, z = b2 (decide (s.2.2 % 2 = 1)) → EX (cal (d + 1)) 160 K 228 [some (.ref 59), none, some (.int (Int32.ofNat W)), some (.int (Int32.ofNat H)), some (.int (Int32.ofNat (opp s.2.2))), some (.int (Int32.ofNat s.1)), some (.int (Int32.ofNat s.2.1)), some (.int 1), some (.int v)] [] (0, 0) (hp fz nn (lay Ln) (w2 (w2 I 64 i (Int32.ofNat (s.1 * W + s.2.1))) 65 i z) J) := by
      intro z hz
      have e9 : (w2 (w2 I 64 i (Int32.ofNat (s.1 * W + s.2.1))) 65 i z) 59 9 + 1 = Int32.ofNat (i + 1) := by
        rw [w2_ne _ _ (by decide), w2_ne _ _ (by decide), hI.st, oN_succ]
      have key : ∀ y : Nat, (isCB v = true → y = 1) → (isCB v = false → y = 0) → WkI W H C (w2 (w2 (w2 (w2 I 64 i (Int32.ofNat (s.1 * W + s.2.1))) 65 i z) 59 9 (Int32.ofNat (i + 1))) 59 11 (I 59 11 + Int32.ofNat y)) g (i + 1) := by
        intro y hy1 hy0
        refine WkI.mk ?_ ?_ (fun k hk => ?_) (fun k hk => ?_)
        · rw [w2_at, if_neg (by omega), w2_at, if_pos ⟨rfl, rfl⟩]
        · rw [w2_at, if_pos ⟨rfl, rfl⟩, hI.tn, oN_add]
          have : cntB (fun j => isCB (C (pC W H C g j))) (i + 1) = cntB (fun j => isCB (C (pC W H C g j))) i + y := by
            show cntB _ i + (if isCB (C (pC W H C g i)) = true then 1 else 0) = _
            rw [hpc, hv9]
            cases e : isCB v with
            | true => rw [hy1 e]; rfl
            | false => rw [hy0 e]; rfl
          rw [this]
        · rw [w2_ne _ _ (by decide), w2_ne _ _ (by decide), w2_ne _ _ (by decide), w2_at]
          by_cases e : k = i
          · subst e; rw [if_pos ⟨rfl, rfl⟩, hpc]
          · rw [if_neg (fun h => e h.2)]; exact hI.pa k (by omega)
        · rw [w2_ne _ _ (by decide), w2_ne _ _ (by decide), w2_at]
          by_cases e : k = i
          · subst e; rw [if_pos ⟨rfl, rfl⟩, hpd]; exact hz
          · rw [if_neg (fun h => e h.2), w2_ne _ _ (by decide)]; exact hI.ir k (by omega)
      have fr : ∀ u : Int32, WkF I0 (w2 (w2 (w2 (w2 I 64 i (Int32.ofNat (s.1 * W + s.2.1))) 65 i z) 59 9 (Int32.ofNat (i + 1))) 59 11 u) := fun u a k hq => by
        rw [w2_at, if_neg (by omega), w2_at, if_neg (by omega), w2_at, if_neg (by omega), w2_at, if_neg (by omega)]
        exact hF a k hq
      have k0 : WkI W H C (w2 (w2 (w2 I 64 i (Int32.ofNat (s.1 * W + s.2.1))) 65 i z) 59 9 (Int32.ofNat (i + 1))) g (i + 1) → True := fun _ => trivial
      have same : w2 (w2 (w2 (w2 I 64 i (Int32.ofNat (s.1 * W + s.2.1))) 65 i z) 59 9 (Int32.ofNat (i + 1))) 59 11 (I 59 11 + Int32.ofNat 0) = w2 (w2 (w2 I 64 i (Int32.ofNat (s.1 * W + s.2.1))) 65 i z) 59 9 (Int32.ofNat (i + 1)) := by
        funext a k
        rw [w2_at]
        by_cases e : a = 59 ∧ k = 11
        · rw [if_pos e, e.1, e.2, w2_at, if_neg (by omega), w2_ne _ _ (by decide), w2_ne _ _ (by decide)]
          exact Int32.add_zero _
        · rw [if_neg e]
      have e11 : (w2 (w2 (w2 I 64 i (Int32.ofNat (s.1 * W + s.2.1))) 65 i z) 59 9 (Int32.ofNat (i + 1))) 59 11 = I 59 11 := by
        rw [w2_at, if_neg (by omega), w2_ne _ _ (by decide), w2_ne _ _ (by decide)]
      have e10 : ∀ u : Int32, (w2 (w2 (w2 (w2 I 64 i (Int32.ofNat (s.1 * W + s.2.1))) 65 i z) 59 9 (Int32.ofNat (i + 1))) 59 11 u) 59 10 = -1 := fun u => by
        rw [w2_at, if_neg (by omega), w2_at, if_neg (by omega), w2_ne _ _ (by decide), w2_ne _ _ (by decide)]
        exact h10
      refine r_160_228 hn (if_c (fun e => ?_) (fun e => ?_))
      · -- a broken corner
        rw [e9]
        have hcb : isCB v = false := by subst e; decide
        have hk := key 0 (fun h => by rw [hcb] at h; cases h) (fun _ => rfl)
        rw [same] at hk
        obtain ⟨q1, q2⟩ := b_eq hW hH hg (show Bd W H C g i (-1) from ⟨s, hit, Or.inl ⟨by unfold byt; rw [hv9]; exact e, rfl⟩⟩)
        have fin := hK _ (same ▸ fr (I 59 11 + Int32.ofNat 0)) (Wk.mk (by rw [q1]; exact hk) (by rw [q2, ← same]; exact e10 _))
        refine r_160_252 hn ?_
        rw [f9_corner, hcb]
        refine if_y rfl (r_160_279 hn ?_)
        have out : ∀ (r c : Int32), EX (cal (d + 1)) 160 K 148 [some (.ref 59), none, some (.int (Int32.ofNat W)), some (.int (Int32.ofNat H)), some (.int (Int32.ofNat (opp s.2.2))), some (.int r), some (.int c), some (.int 0), none] [] (0, 0) (hp fz nn (lay Ln) (w2 (w2 (w2 I 64 i (Int32.ofNat (s.1 * W + s.2.1))) 65 i z) 59 9 (Int32.ofNat (i + 1))) J) := fun r c => r_160_148 hn (if_y rfl fin)
        have out2 : ∀ (r c : Int32), EX (cal (d + 1)) 160 K 304 [some (.ref 59), none, some (.int (Int32.ofNat W)), some (.int (Int32.ofNat H)), some (.int (Int32.ofNat (opp s.2.2))), some (.int r), some (.int c), some (.int 0), some (.int v)] [] (0, 0) (hp fz nn (lay Ln) (w2 (w2 (w2 I 64 i (Int32.ofNat (s.1 * W + s.2.1))) 65 i z) 59 9 (Int32.ofNat (i + 1))) J) := fun r c => r_160_304 hn (if_c (fun _ => out _ _) (fun _ => if_c (fun _ => out _ _) (fun _ => out _ _)))
        exact if_c (fun _ => out2 _ _) (fun _ => if_c (fun _ => out2 _ _) (fun _ => out2 _ _))
      · rw [e9]
        have hnx : byt W C s ≠ 35 := by unfold byt; rw [hv9]; exact e
        have go : ∀ u : Int32, WkI W H C (w2 (w2 (w2 (w2 I 64 i (Int32.ofNat (s.1 * W + s.2.1))) 65 i z) 59 9 (Int32.ofNat (i + 1))) 59 11 u) g (i + 1) → EX (cal (d + 1)) 160 K 279 [some (.ref 59), none, some (.int (Int32.ofNat W)), some (.int (Int32.ofNat H)), some (.int (Int32.ofNat (opp (trn v s.2.2)))), some (.int (Int32.ofNat s.1)), some (.int (Int32.ofNat s.2.1)), some (.int 1), some (.int v)] [] (0, 0) (hp fz nn (lay Ln) (w2 (w2 (w2 (w2 I 64 i (Int32.ofNat (s.1 * W + s.2.1))) 65 i z) 59 9 (Int32.ofNat (i + 1))) 59 11 u) J) := by
          intro u hk
          have hnxt : nxt W H C s = mv W H s.1 s.2.1 (trn v s.2.2) := by unfold nxt byt; rw [hv9]
          refine wk_go (s := s) hn hW7 hH7 hin.1 hin.2.1 (trn_lt v hin.2.2) (fun t ht => ?_) (fun q hq => ?_)
          · have ht2 : t.2.2 = trn v s.2.2 := (mv_in hin.1 hin.2.1 (trn_lt v hin.2.2) ht).2.1
            rw [← ht2]
            exact ih (i + 1) t _ (by omega) (it_succ.mpr ⟨s, hit, hnx, by rw [hnxt]; exact ht⟩) (fr u) hk (e10 u)
          · obtain ⟨q1, q2⟩ := b_eq hW hH hg (show Bd W H C g i (Int32.ofNat q) from ⟨s, hit, Or.inr ⟨hnx, q, by rw [hnxt]; exact hq, rfl⟩⟩)
            refine hK _ (fun a k hq' => ?_) (Wk.mk ?_ ?_)
            · rw [w2_at, if_neg (by omega)]; exact fr u a k hq'
            · rw [q1]
              refine WkI.mk ?_ ?_ (fun k hk' => ?_) (fun k hk' => ?_)
              · rw [w2_at, if_neg (by omega)]; exact hk.st
              · rw [w2_at, if_neg (by omega)]; exact hk.tn
              · rw [w2_ne _ _ (by decide)]; exact hk.pa k hk'
              · rw [w2_ne _ _ (by decide)]; exact hk.ir k hk'
            · rw [w2_at, if_pos ⟨rfl, rfl⟩, q2]
        refine r_160_252 hn ?_
        rw [f9_corner, e11]
        refine b2c (fun hcb => ?_) (fun hcb => ?_)
        · have := go (I 59 11 + Int32.ofNat 0) (key 0 (fun h => by rw [hcb] at h; cases h) (fun _ => rfl))
          rw [same, trn_no hcb] at this
          exact this
        · rw [turnAt_eq v hin.2.2 hcb]
          exact go (I 59 11 + Int32.ofNat 1) (key 1 (fun _ => rfl) (fun h => by rw [hcb] at h; cases h))
    refine if_c (fun e => ?_) (fun e => ?_)
    · exact main 1 (by rw [decide_eq_true ((par_eq hin.2.2).mp e)]; rfl)
    · exact main 0 (by rw [decide_eq_false (fun z => e ((par_eq hin.2.2).mpr z))]; rfl)
theorem sp_walks (hn : 74 ≤ nn) (hN : NowR I W H C) (hg : g < 2 * (W + H)) (hK : ∀ I', WkF I I' → Wk W H C I' g → K (.inl none) (hp fz nn (lay Ln) I' J)) :
    cal (d + 2) 160 [.ref 59, .int (Int32.ofNat g)] (hp fz nn (lay Ln) I J) K := by
  have hb := hN.g28
  have b1 := hN.ws
  have b2' := hN.hs
  refine call_in (Nat.le_of_ble_eq_true rfl) rfl rfl (r_160_0 hn ?_)
  have e0 : (2 : Int32) * I 60 0 = Int32.ofNat (2 * W) := by rw [hN.w]; exact oN_mul 2 W
  rw [e0, hN.w, hN.h, oN_add, oN_add]
  have go := lp_walks (d := d) (g := g) hn hN hg hK 98 0 (ent W H g) (w2 (w2 (w2 I 59 9 0) 59 11 0) 59 10 (-1)) (by omega) rfl (fun a k hq => by
      rw [w2_at, if_neg (by omega), w2_at, if_neg (by omega), w2_at, if_neg (by omega)])
    (WkI.mk rfl rfl (fun k hk => absurd hk (Nat.not_lt_zero k)) (fun k hk => absurd hk (Nat.not_lt_zero k))) rfl
  unfold ent at go
  by_cases h1 : g < W
  · rw [if_pos h1] at go
    dsimp only at go
    rw [show opp 2 = 0 from rfl] at go
    exact if_n (le_n (by omega) (by omega)) go
  · rw [if_neg h1] at go
    refine if_y (le_y (by omega) (by omega)) ?_
    by_cases h2 : g < W + H
    · rw [if_pos h2] at go
      dsimp only at go
      rw [show opp 3 = 1 from rfl] at go
      have : Int32.ofNat W - 1 = Int32.ofNat (W - 1) := oN_sub (b := 1) (by omega)
      rw [oN_sub (show W ≤ g by omega), this]
      exact if_n (le_n (by omega) (by omega)) go
    · rw [if_neg h2] at go
      refine if_y (le_y (by omega) (by omega)) ?_
      by_cases h3 : g < 2 * W + H
      · rw [if_pos h3] at go
        dsimp only at go
        rw [show opp 0 = 2 from rfl] at go
        have : Int32.ofNat H - 1 = Int32.ofNat (H - 1) := oN_sub (b := 1) (by omega)
        rw [this, oN_sub (show W ≤ g by omega), oN_sub (show H ≤ g - W by omega)]
        exact if_n (le_n (by omega) (by omega)) go
      · rw [if_neg h3] at go
        dsimp only at go
        rw [show opp 1 = 3 from rfl] at go
        rw [oN_sub (show 2 * W ≤ g by omega), oN_sub (show H ≤ g - 2 * W by omega)]
        exact if_y (le_y (by omega) (by omega)) go
end WLK
