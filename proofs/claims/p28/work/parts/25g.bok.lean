/-! ===== all bands traced ===== -/
def BInv (W H : Nat) (C : Cel) (I : HI) (J : HJ) (G : Nat) : Prop :=
  (∀ g, g < 28 → I 37 g = if g < G then bE W H C g else -1) ∧
  (∀ g, g < 28 → I 38 g = if g < G then Int32.ofNat (bN W H C g) else 0) ∧
  (∀ g, g < 28 → I 39 g = if g < G then Int32.ofNat (cntB (fun j => isCB (C (pC W H C g j))) (bN W H C g)) else 0) ∧
  (∀ g, g < 28 → I 40 g = if g < G then Int32.ofNat (cntB (fun j => isRB (C (pC W H C g j))) (bN W H C g)) else 0) ∧
  (∀ g, g < 28 → J 41 g = if g < G then orB (pC W H C g) (bN W H C g) else 0) ∧
  (∀ g, g < 28 → J 42 g = if g < G then twB (pC W H C g) (bN W H C g) else 0) ∧
  (∀ g, g < G → ∀ j, j < bN W H C g → I 43 (98 * g + j) = Int32.ofNat (pC W H C g j)) ∧
  (∀ c, c < 49 → I 44 c = lowB W H C 1 c G) ∧
  (∀ c, c < 49 → I 45 c = lowB W H C 0 c G) ∧
  (∀ c, c < 49 → I 46 c = Int32.ofNat (entN W H C c G)) ∧
  (I 35 11 = Int32.ofNat (nFst W H C G)) ∧
  (I 35 12 = Int32.ofNat (nCrs W H C G))
theorem BInv.en {W H : Nat} {C : Cel} {I : HI} {J : HJ} {G : Nat} (h : BInv W H C I J G) : ∀ g, g < 28 → I 37 g = if g < G then bE W H C g else -1 := h.1
theorem BInv.ln {W H : Nat} {C : Cel} {I : HI} {J : HJ} {G : Nat} (h : BInv W H C I J G) : ∀ g, g < 28 → I 38 g = if g < G then Int32.ofNat (bN W H C g) else 0 := h.2.1
theorem BInv.tn {W H : Nat} {C : Cel} {I : HI} {J : HJ} {G : Nat} (h : BInv W H C I J G) : ∀ g, g < 28 → I 39 g = if g < G then Int32.ofNat (cntB (fun j => isCB (C (pC W H C g j))) (bN W H C g)) else 0 := h.2.2.1
theorem BInv.rn {W H : Nat} {C : Cel} {I : HI} {J : HJ} {G : Nat} (h : BInv W H C I J G) : ∀ g, g < 28 → I 40 g = if g < G then Int32.ofNat (cntB (fun j => isRB (C (pC W H C g j))) (bN W H C g)) else 0 := h.2.2.2.1
theorem BInv.on {W H : Nat} {C : Cel} {I : HI} {J : HJ} {G : Nat} (h : BInv W H C I J G) : ∀ g, g < 28 → J 41 g = if g < G then orB (pC W H C g) (bN W H C g) else 0 := h.2.2.2.2.1
theorem BInv.tw {W H : Nat} {C : Cel} {I : HI} {J : HJ} {G : Nat} (h : BInv W H C I J G) : ∀ g, g < 28 → J 42 g = if g < G then twB (pC W H C g) (bN W H C g) else 0 := h.2.2.2.2.2.1
theorem BInv.pa {W H : Nat} {C : Cel} {I : HI} {J : HJ} {G : Nat} (h : BInv W H C I J G) : ∀ g, g < G → ∀ j, j < bN W H C g → I 43 (98 * g + j) = Int32.ofNat (pC W H C g j) := h.2.2.2.2.2.2.1
theorem BInv.ro {W H : Nat} {C : Cel} {I : HI} {J : HJ} {G : Nat} (h : BInv W H C I J G) : ∀ c, c < 49 → I 44 c = lowB W H C 1 c G := h.2.2.2.2.2.2.2.1
theorem BInv.co {W H : Nat} {C : Cel} {I : HI} {J : HJ} {G : Nat} (h : BInv W H C I J G) : ∀ c, c < 49 → I 45 c = lowB W H C 0 c G := h.2.2.2.2.2.2.2.2.1
theorem BInv.et {W H : Nat} {C : Cel} {I : HI} {J : HJ} {G : Nat} (h : BInv W H C I J G) : ∀ c, c < 49 → I 46 c = Int32.ofNat (entN W H C c G) := h.2.2.2.2.2.2.2.2.2.1
theorem BInv.nf {W H : Nat} {C : Cel} {I : HI} {J : HJ} {G : Nat} (h : BInv W H C I J G) : I 35 11 = Int32.ofNat (nFst W H C G) := h.2.2.2.2.2.2.2.2.2.2.1
theorem BInv.nc {W H : Nat} {C : Cel} {I : HI} {J : HJ} {G : Nat} (h : BInv W H C I J G) : I 35 12 = Int32.ofNat (nCrs W H C G) := h.2.2.2.2.2.2.2.2.2.2.2
theorem BInv.mk {W H : Nat} {C : Cel} {I : HI} {J : HJ} {G : Nat} (c_en : ∀ g, g < 28 → I 37 g = if g < G then bE W H C g else -1) (c_ln : ∀ g, g < 28 → I 38 g = if g < G then Int32.ofNat (bN W H C g) else 0) (c_tn : ∀ g, g < 28 → I 39 g = if g < G then Int32.ofNat (cntB (fun j => isCB (C (pC W H C g j))) (bN W H C g)) else 0) (c_rn : ∀ g, g < 28 → I 40 g = if g < G then Int32.ofNat (cntB (fun j => isRB (C (pC W H C g j))) (bN W H C g)) else 0) (c_on : ∀ g, g < 28 → J 41 g = if g < G then orB (pC W H C g) (bN W H C g) else 0) (c_tw : ∀ g, g < 28 → J 42 g = if g < G then twB (pC W H C g) (bN W H C g) else 0) (c_pa : ∀ g, g < G → ∀ j, j < bN W H C g → I 43 (98 * g + j) = Int32.ofNat (pC W H C g j)) (c_ro : ∀ c, c < 49 → I 44 c = lowB W H C 1 c G) (c_co : ∀ c, c < 49 → I 45 c = lowB W H C 0 c G) (c_et : ∀ c, c < 49 → I 46 c = Int32.ofNat (entN W H C c G)) (c_nf : I 35 11 = Int32.ofNat (nFst W H C G)) (c_nc : I 35 12 = Int32.ofNat (nCrs W H C G)) : BInv W H C I J G := ⟨c_en, c_ln, c_tn, c_rn, c_on, c_tw, c_pa, c_ro, c_co, c_et, c_nf, c_nc⟩
/-- what a trace of the class keeps -/
def BFr (I0 : HI) (J0 : HJ) (I : HI) (J : HJ) : Prop := (∀ a, ¬ (35 ≤ a ∧ a ≤ 46) → I a = I0 a) ∧ ∀ a, ¬ (41 ≤ a ∧ a ≤ 42) → J a = J0 a
theorem if_lt1 {g G : Nat} {α : Type} {x y : α} (h : g ≠ G) : (if g < G + 1 then x else y) = if g < G then x else y := by
  by_cases e : g < G
  · rw [if_pos e, if_pos (by omega)]
  · rw [if_neg e, if_neg (by omega)]
section TRC
variable {d nn Ln : Nat} {fz : Nat} {K : Post} {W H : Nat} {C : Cel}
theorem lp_trace {I0 : HI} {J0 : HJ} (hn : 59 ≤ nn) (hS : StC I0 W H C) (hK : ∀ I J, BFr I0 J0 I J → BInv W H C I J (2 * (W + H)) → K (.inl none) (hp fz nn (lay Ln) I J)) :
    ∀ (m G : Nat) (I : HI) (J : HJ), G + m = 2 * (W + H) → BFr I0 J0 I J → BInv W H C I J G →
      EX (cal (d + 5)) 1 K 6 [some (.ref 35), some (.ref 2), some (.int (Int32.ofNat G))] [] (0, 0) (hp fz nn (lay Ln) I J) := by
  have hb := hS.1.g28
  have hWH := hS.1.n
  have hW := hS.W0
  have hH := hS.H0
  intro m
  induction m with
  | zero =>
    intro G I J hG hfr hI
    obtain rfl : G = 2 * (W + H) := hG
    have hSI : StC I W H C := hS.mono (hfr.1 2 (by decide)) (hfr.1 3 (by decide))
    refine r_1_6 (d := d + 3) hn (if_y ?_ (hK I J hfr hI))
    rw [hSI.1.gt]
    exact Int32.le_refl _
  | succ m ih =>
    intro G I J hG hfr hI
    have hg : G < 2 * (W + H) := by omega
    have hSI : StC I W H C := hS.mono (hfr.1 2 (by decide)) (hfr.1 3 (by decide))
    have hbn := bN_le (C := C) hW hH hg
    refine r_1_6 (d := d + 3) hn (if_n ?_ ?_)
    · rw [hSI.1.gt]
      exact le_n (by omega) (by omega)
    · refine sp_follow hn hSI hg (by rw [hI.en G (by omega), if_neg (by omega)]) (by rw [hI.ln G (by omega), if_neg (by omega)]) (by rw [hI.tn G (by omega), if_neg (by omega)]) (by rw [hI.rn G (by omega), if_neg (by omega)]) (by rw [hI.on G (by omega), if_neg (by omega)]) (by rw [hI.tw G (by omega), if_neg (by omega)]) (fun I1 J1 hF h37 => kc_0 rfl rfl (r_1_20 (d := d + 3) hn ?_))
      have hS1 : StC I1 W H C := hSI.mono (hF.row (by decide)) (hF.row (by decide))
      have hfr1 : BFr I0 J0 I1 J1 := by
        refine ⟨fun a ha => ?_, fun a ha => ?_⟩
        · rw [← hfr.1 a ha]
          funext k
          exact hF.fI a k (by unfold FolR; omega)
        · rw [← hfr.2 a ha]
          funext k
          exact hF.fJ a k (by omega)
      have nI : ∀ a k, 37 ≤ a → a ≤ 40 → k ≠ G → I1 a k = I a k := fun a k _ _ hk => hF.fI a k (by unfold FolR; omega)
      have nJ : ∀ a k, k ≠ G → J1 a k = J a k := fun a k hk => hF.fJ a k (by omega)
      have oI : ∀ a k, 44 ≤ a ∨ a = 35 → I1 a k = I a k := fun a k ha => hF.fI a k (by unfold FolR; omega)
      have x37 : ∀ g, g < 28 → I1 37 g = if g < G + 1 then bE W H C g else -1 := fun g h => by
        by_cases e : g = G
        · subst e; rw [if_pos (by omega)]; exact h37
        · rw [if_lt1 e, nI 37 g (by decide) (by decide) e]; exact hI.en g h
      have x38 : ∀ g, g < 28 → I1 38 g = if g < G + 1 then Int32.ofNat (bN W H C g) else 0 := fun g h => by
        by_cases e : g = G
        · subst e; rw [if_pos (by omega)]; exact hF.ln
        · rw [if_lt1 e, nI 38 g (by decide) (by decide) e]; exact hI.ln g h
      have x39 : ∀ g, g < 28 → I1 39 g = if g < G + 1 then Int32.ofNat (cntB (fun j => isCB (C (pC W H C g j))) (bN W H C g)) else 0 := fun g h => by
        by_cases e : g = G
        · subst e; rw [if_pos (by omega)]; exact hF.tn
        · rw [if_lt1 e, nI 39 g (by decide) (by decide) e]; exact hI.tn g h
      have x40 : ∀ g, g < 28 → I1 40 g = if g < G + 1 then Int32.ofNat (cntB (fun j => isRB (C (pC W H C g j))) (bN W H C g)) else 0 := fun g h => by
        by_cases e : g = G
        · subst e; rw [if_pos (by omega)]; exact hF.rn
        · rw [if_lt1 e, nI 40 g (by decide) (by decide) e]; exact hI.rn g h
      have x41 : ∀ g, g < 28 → J1 41 g = if g < G + 1 then orB (pC W H C g) (bN W H C g) else 0 := fun g h => by
        by_cases e : g = G
        · subst e; rw [if_pos (by omega)]; exact hF.on
        · rw [if_lt1 e, nJ 41 g e]; exact hI.on g h
      have x42 : ∀ g, g < 28 → J1 42 g = if g < G + 1 then twB (pC W H C g) (bN W H C g) else 0 := fun g h => by
        by_cases e : g = G
        · subst e; rw [if_pos (by omega)]; exact hF.tw
        · rw [if_lt1 e, nJ 42 g e]; exact hI.tw g h
      have x43 : ∀ g, g < G + 1 → ∀ j, j < bN W H C g → I1 43 (98 * g + j) = Int32.ofNat (pC W H C g j) := fun g h j hj => by
        by_cases e : g = G
        · subst e; exact hF.pa j hj
        · have := bN_le (C := C) hW hH (g := g) (by omega)
          rw [hF.fI 43 _ (by unfold FolR; omega)]; exact hI.pa g (by omega) j hj
      have hbf : f_X0_bandFrom (Int32.ofNat G) I1 = Int32.ofNat G ↔ fstB W H C G = true := by
        rw [fstB_iff, ← fstG_iff hW hH (by omega) hg, ← bandFrom_iff hW hH (by omega) hg]
        unfold f_X0_bandFrom
        rw [atI_oN (by omega) (by decide), h37]
      refine if_c (fun hf => ?_) (fun hf => ?_)
      · have hf := hbf.mp hf
        refine sp_countBand (d := d + 2) hn hS1 hg hF.ln hF.pa hF.tw (fun I2 hC => kc_0 rfl rfl (r_1_35 (d := d + 3) hn ?_))
        rw [oN_succ]
        have rw35 : ∀ b a, a ≠ 35 → cnI I1 b a = I1 a := fun b a h => by unfold cnI; rw [w2_other _ _ _ h, w2_other _ _ _ h]
        have r2 : ∀ a, ¬ (a = 36 ∨ (44 ≤ a ∧ a ≤ 46)) → a ≠ 35 → I2 a = I1 a := fun a h h2 => by rw [hC.row h, rw35 _ _ h2]
        refine ih (G + 1) I2 J1 (by omega) ⟨fun a ha => ?_, hfr1.2⟩ (BInv.mk (fun g h => ?_) (fun g h => ?_) (fun g h => ?_) (fun g h => ?_) x41 x42 (fun g h j hj => ?_) (fun c hc => ?_) (fun c hc => ?_) (fun c hc => ?_) ?_ ?_)
        · rw [r2 a (by omega) (by omega)]; exact hfr1.1 a ha
        · rw [r2 37 (by decide) (by decide)]; exact x37 g h
        · rw [r2 38 (by decide) (by decide)]; exact x38 g h
        · rw [r2 39 (by decide) (by decide)]; exact x39 g h
        · rw [r2 40 (by decide) (by decide)]; exact x40 g h
        · rw [r2 43 (by decide) (by decide)]; exact x43 g h j hj
        · rw [hC.ro c, rw35 _ _ (by decide), oI 44 c (Or.inl (by decide)), hI.ro c hc]
          show _ = if lowB W H C 1 c G = -1 ∧ fstB W H C G = true ∧ eIn W H C 1 c G (bN W H C G) = true then _ else _
          simp only [hf, true_and]
        · rw [hC.co c, rw35 _ _ (by decide), oI 45 c (Or.inl (by decide)), hI.co c hc]
          show _ = if lowB W H C 0 c G = -1 ∧ fstB W H C G = true ∧ eIn W H C 0 c G (bN W H C G) = true then _ else _
          simp only [hf, true_and]
        · rw [hC.en c, rw35 _ _ (by decide), oI 46 c (Or.inl (by decide)), hI.et c hc, oN_add]
          show _ = Int32.ofNat (entN W H C c G + (if fstB W H C G then cntB (fun i => decide (pC W H C G i = c)) (bN W H C G) else 0))
          rw [if_pos hf]
        · rw [hC.row (by decide)]
          show I1 35 11 + 1 = _
          rw [oI 35 11 (Or.inr rfl), hI.nf, oN_succ]
          show _ = Int32.ofNat (cntB _ G + (if fstB W H C G then 1 else 0))
          rw [if_pos hf]; rfl
        · rw [hC.row (by decide)]
          show I1 35 12 + b2 _ = _
          rw [oI 35 12 (Or.inr rfl), hI.nc]
          have := cntB_b2 (fun g => fstB W H C g && crB (pC W H C g) (bN W H C g)) G
          rw [hf, Bool.true_and] at this
          exact this
      · have hf : fstB W H C G = false := by
          cases e : fstB W H C G with
          | false => rfl
          | true => exact absurd (hbf.mpr e) hf
        rw [oN_succ]
        refine ih (G + 1) I1 J1 (by omega) hfr1 (BInv.mk x37 x38 x39 x40 x41 x42 x43 (fun c hc => ?_) (fun c hc => ?_) (fun c hc => ?_) ?_ ?_)
        · rw [oI 44 c (Or.inl (by decide)), hI.ro c hc]
          show _ = if lowB W H C 1 c G = -1 ∧ fstB W H C G = true ∧ eIn W H C 1 c G (bN W H C G) = true then _ else _
          rw [hf, if_neg (fun e => by cases e.2.1)]
        · rw [oI 45 c (Or.inl (by decide)), hI.co c hc]
          show _ = if lowB W H C 0 c G = -1 ∧ fstB W H C G = true ∧ eIn W H C 0 c G (bN W H C G) = true then _ else _
          rw [hf, if_neg (fun e => by cases e.2.1)]
        · rw [oI 46 c (Or.inl (by decide)), hI.et c hc]
          show _ = Int32.ofNat (entN W H C c G + (if fstB W H C G then cntB (fun i => decide (pC W H C G i = c)) (bN W H C G) else 0))
          rw [hf]; rfl
        · rw [oI 35 11 (Or.inr rfl), hI.nf]
          show _ = Int32.ofNat (cntB _ G + (if fstB W H C G then 1 else 0))
          rw [hf]; rfl
        · rw [oI 35 12 (Or.inr rfl), hI.nc]
          show _ = Int32.ofNat (cntB _ G + (if (fstB W H C G && crB (pC W H C G) (bN W H C G)) then 1 else 0))
          rw [hf]; rfl
theorem sp_trace {I : HI} {J : HJ} (hn : 59 ≤ nn) (hS : StC I W H C) (hK : ∀ I' J', BFr I J I' J' → BInv W H C I' J' (2 * (W + H)) → K (.inl none) (hp fz nn (lay Ln) I' J')) :
    cal (d + 6) 1 [.ref 35, .ref 2] (hp fz nn (lay Ln) I J) K := by
  refine call_in (Nat.le_of_ble_eq_true rfl) rfl rfl (r_1_0 (d := d + 3) hn ?_)
  refine lp_trace hn hS hK (2 * (W + H)) 0 _ _ (by omega) ⟨fun a ha => ?_, fun a ha => ?_⟩ (BInv.mk (fun g h => ?_) (fun g h => ?_) (fun g h => ?_) (fun g h => ?_) (fun g h => ?_) (fun g h => ?_) (fun g h => absurd h (by omega)) (fun c hc => ?_) (fun c hc => ?_) (fun c hc => ?_) ?_ ?_)
  · funext k
    simp only [w2_at, flI_at]
    repeat rw [if_neg (by omega)]
  · funext k
    simp only [flJ_at]
    repeat rw [if_neg (by omega)]
  · simp [w2_at, flI_at, h]
  · simp [w2_at, flI_at, h]
  · simp [w2_at, flI_at, h]
  · simp [w2_at, flI_at, h]
  · simp [flJ_at, h]
  · simp [flJ_at, h]
  · simp [w2_at, flI_at, hc, lowB]
  · simp [w2_at, flI_at, hc, lowB]
  · simp [w2_at, flI_at, hc, entN]
  · simp [w2_at, nFst, cntB]
  · simp [w2_at, nCrs, cntB]
end TRC
