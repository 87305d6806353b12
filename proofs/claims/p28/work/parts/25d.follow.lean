/-! ===== one way followed: what the class notes of it ===== -/
theorem cntB_congr {p q : Nat → Bool} {n : Nat} (h : ∀ i, i < n → p i = q i) : cntB p n = cntB q n := by
  induction n with
  | zero => rfl
  | succ n ih =>
    unfold cntB
    rw [ih (fun i hi => h i (by omega)), h n (by omega)]
def StC (I : HI) (W H : Nat) (C : Cel) : Prop := Stn I W H ∧ ∀ c, c < W * H → I 3 c = C c
theorem StC.mono {I I' : HI} {W H : Nat} {C : Cel} (h : StC I W H C) (h2 : I' 2 = I 2) (h3 : I' 3 = I 3) : StC I' W H C := by
  refine ⟨⟨?_, ?_, h.1.2.2⟩, fun c hc => ?_⟩
  · rw [h2]; exact h.1.1
  · rw [h2]; exact h.1.2.1
  · rw [h3]; exact h.2 c hc
theorem StC.W0 {I : HI} {W H : Nat} {C : Cel} (h : StC I W H C) : 0 < W := by have := h.1.2.2.1.1; omega
theorem StC.H0 {I : HI} {W H : Nat} {C : Cel} (h : StC I W H C) : 0 < H := by have := h.1.2.2.2.1; omega
theorem StC.byt {I : HI} {W H : Nat} {C : Cel} (h : StC I W H C) {c : Nat} (hc : c < W * H) : atI (I 3) 49 (Int32.ofNat c) = C c := by
  rw [at_cell h.1 hc]; exact h.2 c hc
theorem note_eq {I : HI} {g c len : Nat} {v : Int32} (hg : g < 28) (hl : I 38 g = Int32.ofNat len) (hl2 : len < 98) : fI_X0_note (Int32.ofNat g) (Int32.ofNat c) v I = w2 (w2 (w2 (w2 I 43 (98 * g + len) (Int32.ofNat c)) 38 g (Int32.ofNat (len + 1))) 39 g (I 39 g + b2 (isCB v))) 40 g (I 40 g + b2 (isRB v)) := by
  unfold fI_X0_note
  have e1 : Int32.ofNat g * 98 + Int32.ofNat len = Int32.ofNat (98 * g + len) := by
    have : Int32.ofNat g * 98 = Int32.ofNat (g * 98) := oN_mul g 98
    rw [this, oN_add, Nat.mul_comm]
  have e2 : ∀ (I : HI) (o a : Nat) (v : Int32), a < 28 → pI2 I o 28 (Int32.ofNat a) v = w2 I o a v := fun I o a v h => pI2_oN h (by decide)
  have e3 : ∀ (f : Nat → Int32) , atI f 28 (Int32.ofNat g) = f g := fun f => atI_oN hg (by decide)
  rw [f_corner, f_rune]
  simp only [e3, hl, e1, e2 _ _ _ _ hg]
  rw [pI2_oN (by omega) (by decide), oN_succ]
  cases isCB v <;> cases isRB v <;> simp [b2]
theorem noteJ_eq {J : HJ} {g c : Nat} {v : Int32} (hg : g < 28) : fJ_X0_note (Int32.ofNat g) (Int32.ofNat c) v J = x2 (x2 J 42 g (J 42 g ||| (J 41 g &&& bitL c))) 41 g (J 41 g ||| bitL c) := by
  unfold fJ_X0_note
  have e2 : ∀ (J : HJ) (o a : Nat) (v : Int64), a < 28 → pJ2 J o 28 (Int32.ofNat a) v = x2 J o a v := fun J o a v h => pJ2_oN h (by decide)
  have e3 : ∀ (f : Nat → Int64) , atJ f 28 (Int32.ofNat g) = f g := fun f => atJ_oN hg (by decide)
  simp only [e3, e2 _ _ _ _ hg]
  simp only [ite_self]
  rfl
def FolR (g a k : Nat) : Prop := a = 36 ∨ (37 ≤ a ∧ a ≤ 40 ∧ k = g) ∨ (a = 43 ∧ 98 * g ≤ k ∧ k < 98 * g + 98)
/-- what is noted of the first i places of the way from g -/
def FInv (W H : Nat) (C : Cel) (I0 : HI) (J0 : HJ) (I : HI) (J : HJ) (g i : Nat) : Prop :=
  (∀ a k, ¬ FolR g a k → I a k = I0 a k) ∧
  (∀ a k, ¬ (41 ≤ a ∧ a ≤ 42 ∧ k = g) → J a k = J0 a k) ∧
  (I 38 g = Int32.ofNat i) ∧
  (I 39 g = Int32.ofNat (cntB (fun j => isCB (C (pC W H C g j))) i)) ∧
  (I 40 g = Int32.ofNat (cntB (fun j => isRB (C (pC W H C g j))) i)) ∧
  (J 41 g = orB (pC W H C g) i) ∧
  (J 42 g = twB (pC W H C g) i) ∧
  (∀ j, j < i → I 43 (98 * g + j) = Int32.ofNat (pC W H C g j))
theorem FInv.fI {W H : Nat} {C : Cel} {I0 : HI} {J0 : HJ} {I : HI} {J : HJ} {g i : Nat} (h : FInv W H C I0 J0 I J g i) : ∀ a k, ¬ FolR g a k → I a k = I0 a k := h.1
theorem FInv.fJ {W H : Nat} {C : Cel} {I0 : HI} {J0 : HJ} {I : HI} {J : HJ} {g i : Nat} (h : FInv W H C I0 J0 I J g i) : ∀ a k, ¬ (41 ≤ a ∧ a ≤ 42 ∧ k = g) → J a k = J0 a k := h.2.1
theorem FInv.ln {W H : Nat} {C : Cel} {I0 : HI} {J0 : HJ} {I : HI} {J : HJ} {g i : Nat} (h : FInv W H C I0 J0 I J g i) : I 38 g = Int32.ofNat i := h.2.2.1
theorem FInv.tn {W H : Nat} {C : Cel} {I0 : HI} {J0 : HJ} {I : HI} {J : HJ} {g i : Nat} (h : FInv W H C I0 J0 I J g i) : I 39 g = Int32.ofNat (cntB (fun j => isCB (C (pC W H C g j))) i) := h.2.2.2.1
theorem FInv.rn {W H : Nat} {C : Cel} {I0 : HI} {J0 : HJ} {I : HI} {J : HJ} {g i : Nat} (h : FInv W H C I0 J0 I J g i) : I 40 g = Int32.ofNat (cntB (fun j => isRB (C (pC W H C g j))) i) := h.2.2.2.2.1
theorem FInv.on {W H : Nat} {C : Cel} {I0 : HI} {J0 : HJ} {I : HI} {J : HJ} {g i : Nat} (h : FInv W H C I0 J0 I J g i) : J 41 g = orB (pC W H C g) i := h.2.2.2.2.2.1
theorem FInv.tw {W H : Nat} {C : Cel} {I0 : HI} {J0 : HJ} {I : HI} {J : HJ} {g i : Nat} (h : FInv W H C I0 J0 I J g i) : J 42 g = twB (pC W H C g) i := h.2.2.2.2.2.2.1
theorem FInv.pa {W H : Nat} {C : Cel} {I0 : HI} {J0 : HJ} {I : HI} {J : HJ} {g i : Nat} (h : FInv W H C I0 J0 I J g i) : ∀ j, j < i → I 43 (98 * g + j) = Int32.ofNat (pC W H C g j) := h.2.2.2.2.2.2.2
theorem FInv.mk {W H : Nat} {C : Cel} {I0 : HI} {J0 : HJ} {I : HI} {J : HJ} {g i : Nat} (c_fI : ∀ a k, ¬ FolR g a k → I a k = I0 a k) (c_fJ : ∀ a k, ¬ (41 ≤ a ∧ a ≤ 42 ∧ k = g) → J a k = J0 a k) (c_ln : I 38 g = Int32.ofNat i) (c_tn : I 39 g = Int32.ofNat (cntB (fun j => isCB (C (pC W H C g j))) i)) (c_rn : I 40 g = Int32.ofNat (cntB (fun j => isRB (C (pC W H C g j))) i)) (c_on : J 41 g = orB (pC W H C g) i) (c_tw : J 42 g = twB (pC W H C g) i) (c_pa : ∀ j, j < i → I 43 (98 * g + j) = Int32.ofNat (pC W H C g j)) : FInv W H C I0 J0 I J g i := ⟨c_fI, c_fJ, c_ln, c_tn, c_rn, c_on, c_tw, c_pa⟩
theorem FInv.cur {W H : Nat} {C : Cel} {I0 I I' : HI} {J0 J : HJ} {g i : Nat} (h : FInv W H C I0 J0 I J g i) (h2 : ∀ a, a ≠ 36 → I' a = I a) : FInv W H C I0 J0 I' J g i := by
  refine FInv.mk (fun a k hf => ?_) h.fJ ?_ ?_ ?_ h.on h.tw (fun j hj => ?_)
  · rw [h2 a (fun e => hf (Or.inl e))]; exact h.fI a k hf
  · rw [h2 38 (by decide)]; exact h.ln
  · rw [h2 39 (by decide)]; exact h.tn
  · rw [h2 40 (by decide)]; exact h.rn
  · rw [h2 43 (by decide)]; exact h.pa j hj
theorem FInv.row {W H : Nat} {C : Cel} {I0 I : HI} {J0 J : HJ} {g i : Nat} (h : FInv W H C I0 J0 I J g i) {a : Nat} (ha : a < 36) : I a = I0 a := by
  funext k
  exact h.fI a k (by unfold FolR; omega)
theorem cntB_b2 (p : Nat → Bool) (n : Nat) : Int32.ofNat (cntB p n) + b2 (p n) = Int32.ofNat (cntB p (n + 1)) := by
  rw [b2_ofNat, oN_add]
  rfl
theorem FInv.step {W H : Nat} {C : Cel} {I0 I : HI} {J0 J : HJ} {g i c : Nat} {v : Int32} (h : FInv W H C I0 J0 I J g i) (hg : g < 28) (hi : i < 98) (hc : pC W H C g i = c) (hv : C c = v) :
    FInv W H C I0 J0 (fI_X0_note (Int32.ofNat g) (Int32.ofNat c) v I) (fJ_X0_note (Int32.ofNat g) (Int32.ofNat c) v J) g (i + 1) ∧ ∀ a, ¬ (37 ≤ a) → (fI_X0_note (Int32.ofNat g) (Int32.ofNat c) v I) a = I a := by
  rw [note_eq hg h.ln hi, noteJ_eq hg]
  subst hv
  subst hc
  refine ⟨FInv.mk (fun a k hf => ?_) (fun a k hf => ?_) ?_ ?_ ?_ ?_ ?_ (fun j hj => ?_), fun a ha => ?_⟩
  · rw [w2_at, if_neg (by unfold FolR at hf; omega), w2_at, if_neg (by unfold FolR at hf; omega), w2_at, if_neg (by unfold FolR at hf; omega), w2_at, if_neg (by unfold FolR at hf; omega)]
    exact h.fI a k hf
  · rw [x2_at, if_neg (by omega), x2_at, if_neg (by omega)]
    exact h.fJ a k hf
  · rw [w2_at, if_neg (by omega), w2_at, if_neg (by omega), w2_at, if_pos ⟨rfl, rfl⟩]
  · rw [w2_at, if_neg (by omega), w2_at, if_pos ⟨rfl, rfl⟩, h.tn]
    exact cntB_b2 (fun j => isCB (C (pC W H C g j))) i
  · rw [w2_at, if_pos ⟨rfl, rfl⟩, h.rn]
    exact cntB_b2 (fun j => isRB (C (pC W H C g j))) i
  · rw [x2_at, if_pos ⟨rfl, rfl⟩, h.on]
    rfl
  · rw [x2_at, if_neg (by omega), x2_at, if_pos ⟨rfl, rfl⟩, h.tw, h.on]
    rfl
  · rw [w2_at, if_neg (by omega), w2_at, if_neg (by omega), w2_at, if_neg (by omega), w2_at]
    by_cases e : j = i
    · subst e
      rw [if_pos ⟨rfl, rfl⟩]
    · rw [if_neg (by omega)]
      exact h.pa j (by omega)
  · rw [w2_other _ _ _ (by omega), w2_other _ _ _ (by omega), w2_other _ _ _ (by omega), w2_other _ _ _ (by omega)]
section FOL
variable {d nn Ln : Nat} {fz : Nat} {K : Post} {W H : Nat} {C : Cel} {g : Nat}
theorem lp_follow {I0 : HI} {J0 : HJ} (hn : 59 ≤ nn) (hS : StC I0 W H C) (hg : g < 2 * (W + H)) (h37 : I0 37 g = -1)
    (hK : ∀ I J, FInv W H C I0 J0 I J g (bN W H C g) → I 37 g = bE W H C g → K (.inl none) (hp fz nn (lay Ln) I J)) :
    ∀ (m i : Nat) (s : Pos) (I : HI) (J : HJ), i + m = 98 → itp W H C g i = some s → Cur I s → FInv W H C I0 J0 I J g i → I 37 g = -1 →
      EX (cal (d + 4)) 3 K 11 [some (.ref 35), some (.ref 2), some (.int (Int32.ofNat g)), some (.int (Int32.ofNat i)), none, none, none] [] (0, 0) (hp fz nn (lay Ln) I J) := by
  have hb := hS.1.g28
  have hWH := hS.1.n
  have hW := hS.W0
  have hH := hS.H0
  intro m
  induction m with
  | zero =>
    intro i s I J him hit
    have := it_bound hW hH hg hit
    omega
  | succ m ih =>
    intro i s I J him hit hC hF h37i
    have hin := it_in hW hH hg hit
    have hSI : StC I W H C := hS.mono (hF.row (by decide)) (hF.row (by decide))
    have hcl := cell_lt hin
    have hcell : I 36 0 * I 2 0 + I 36 1 = Int32.ofNat (s.1 * W + s.2.1) := by rw [hC.1, hC.2.1, hSI.1.1, oN_mul, oN_add]
    have hpc : pC W H C g i = s.1 * W + s.2.1 := by unfold pC; rw [pS_of hit]
    refine r_3_11 hn (if_n (le_n (a := 98) (by omega) (by decide)) ?_)
    rw [hcell, hSI.byt hcl]
    obtain ⟨hF2, hrow⟩ := hF.step (v := C (s.1 * W + s.2.1)) (by omega) (by omega) hpc rfl
    have h37n : fI_X0_note (Int32.ofNat g) (Int32.ofNat (s.1 * W + s.2.1)) (C (s.1 * W + s.2.1)) I 37 g = -1 := by
      rw [note_eq (by omega) hF.ln (by omega), w2_at, if_neg (by omega), w2_at, if_neg (by omega), w2_at, if_neg (by omega), w2_at, if_neg (by omega)]
      exact h37i
    refine if_c (fun hv => ?_) (fun hv => ?_)
    · obtain ⟨e1, e2⟩ := b_eq hW hH hg (show Bd W H C g i (-1) from ⟨s, hit, Or.inl ⟨hv, rfl⟩⟩)
      exact hK _ _ (by rw [e1]; exact hF2) (by rw [e2]; exact h37n)
    · have hS2 : Stn (fI_X0_note (Int32.ofNat g) (Int32.ofNat (s.1 * W + s.2.1)) (C (s.1 * W + s.2.1)) I) W H := (hS.mono (hF2.row (by decide)) (hF2.row (by decide))).1
      have hC2 : Cur (fI_X0_note (Int32.ofNat g) (Int32.ofNat (s.1 * W + s.2.1)) (C (s.1 * W + s.2.1)) I) s := by
        unfold Cur
        rw [hrow 36 (by decide)]
        exact hC
      refine sp_goOn (d := d + 2) hn hS2 hC2 hin (fun I' hfr hst => kc_0 rfl rfl (r_3_61 hn ?_))
      have h37' : I' 37 g = -1 := by rw [hfr 37 (by decide)]; exact h37n
      have hF3 := hF2.cur hfr
      have hst' : (match nxt W H C s with
        | .inl t => Cur I' t ∧ f_X1_gateBehind I' = -1
        | .inr q => f_X1_gateBehind I' = Int32.ofNat q) := hst
      cases e : nxt W H C s with
      | inl t =>
        rw [e] at hst'
        refine if_y hst'.2 ?_
        rw [oN_succ]
        exact ih (i + 1) t I' _ (by omega) (it_succ.mpr ⟨s, hit, hv, e⟩) hst'.1 hF3 h37'
      | inr q =>
        rw [e] at hst'
        dsimp only at hst'
        have hq := (nxt_out hin e).2
        obtain ⟨e1, e2⟩ := b_eq hW hH hg (show Bd W H C g i (Int32.ofNat q) from ⟨s, hit, Or.inr ⟨hv, q, e, rfl⟩⟩)
        rw [hst']
        refine if_n (g_ne (by omega)) ?_
        rw [pI2_oN (by omega) (by decide)]
        refine hK _ _ ?_ ?_
        · rw [e1]
          refine FInv.mk (fun a k hf => ?_) hF3.fJ ?_ ?_ ?_ hF3.on hF3.tw (fun j hj => ?_)
          · rw [w2_at, if_neg (by unfold FolR at hf; omega)]; exact hF3.fI a k hf
          · rw [w2_at, if_neg (by omega)]; exact hF3.ln
          · rw [w2_at, if_neg (by omega)]; exact hF3.tn
          · rw [w2_at, if_neg (by omega)]; exact hF3.rn
          · rw [w2_at, if_neg (by omega)]; exact hF3.pa j hj
        · rw [w2_at, if_pos ⟨rfl, rfl⟩, e2]
theorem sp_follow {I : HI} {J : HJ} (hn : 59 ≤ nn) (hS : StC I W H C) (hg : g < 2 * (W + H)) (h37 : I 37 g = -1) (h38 : I 38 g = 0) (h39 : I 39 g = 0) (h40 : I 40 g = 0) (h41 : J 41 g = 0) (h42 : J 42 g = 0)
    (hK : ∀ I' J', FInv W H C I J I' J' g (bN W H C g) → I' 37 g = bE W H C g → K (.inl none) (hp fz nn (lay Ln) I' J')) :
    cal (d + 5) 3 [.ref 35, .ref 2, .int (Int32.ofNat g)] (hp fz nn (lay Ln) I J) K := by
  refine call_in (Nat.le_of_ble_eq_true rfl) rfl rfl (r_3_0 hn ?_)
  rw [enter_eq hS.1 hg]
  refine lp_follow hn hS hg h37 hK 98 0 (ent W H g) _ J (by omega) rfl (cur3_cur _ _) (FInv.mk (fun a k hf => ?_) (fun _ _ _ => rfl) ?_ ?_ ?_ h41 h42 (fun j hj => absurd hj (by omega))) ?_
  · rw [cur3_ne _ _ (fun e => hf (Or.inl e))]
  · rw [cur3_ne _ _ (by decide)]; exact h38
  · rw [cur3_ne _ _ (by decide)]; exact h39
  · rw [cur3_ne _ _ (by decide)]; exact h40
  · rw [cur3_ne _ _ (by decide)]; exact h37
end FOL
