/-! ===== bands counted, all traced ===== -/
def neI (a : Nat) (g c : Nat) (I : HI) : HI := if I a c = -1 then w2 (w2 I a c (Int32.ofNat g)) 46 c (I 46 c + 1) else w2 I 46 c (I 46 c + 1)
theorem nea_eq {I : HI} {g c : Nat} (hc : c < 49) : fI_X0_noteEntrya (Int32.ofNat c) (Int32.ofNat g) I = neI 44 g c I := by
  unfold fI_X0_noteEntrya neI
  rw [atI_cell hc, atI_cell hc, pI2_oN hc (by decide), pI2_oN hc (by decide), pI2_oN hc (by decide)]
theorem neb_eq {I : HI} {g c : Nat} (hc : c < 49) : fI_X0_noteEntryb (Int32.ofNat c) (Int32.ofNat g) I = neI 45 g c I := by
  unfold fI_X0_noteEntryb neI
  rw [atI_cell hc, atI_cell hc, pI2_oN hc (by decide), pI2_oN hc (by decide), pI2_oN hc (by decide)]
theorem neI_fr {I : HI} {a g c a' : Nat} (h : a' ≠ a) (h2 : a' ≠ 46) : neI a g c I a' = I a' := by
  unfold neI
  split
  · rw [w2_other _ _ _ h2, w2_other _ _ _ h]
  · rw [w2_other _ _ _ h2]
theorem neI_a {I : HI} {a g c c' : Nat} (h : a ≠ 46) : neI a g c I a c' = if c' = c ∧ I a c = -1 then Int32.ofNat g else I a c' := by
  unfold neI
  by_cases e : I a c = -1
  · rw [if_pos e, w2_ne _ _ h, w2_at]
    by_cases e2 : c' = c
    · rw [if_pos ⟨rfl, e2⟩, if_pos ⟨e2, e⟩]
    · rw [if_neg (fun q => e2 q.2), if_neg (fun q => e2 q.1)]
  · rw [if_neg e, w2_ne _ _ h, if_neg (fun q => e q.2)]
theorem neI_46 {I : HI} {a g c c' : Nat} (h : a ≠ 46) : neI a g c I 46 c' = I 46 c' + (if c' = c then 1 else 0) := by
  unfold neI
  by_cases e : I a c = -1
  · rw [if_pos e, w2_at]
    by_cases e2 : c' = c
    · subst e2; rw [if_pos ⟨rfl, rfl⟩, if_pos rfl]
    · rw [if_neg (fun q => e2 q.2), if_neg e2, w2_ne _ _ (by omega), Int32.add_zero]
  · rw [if_neg e, w2_at]
    by_cases e2 : c' = c
    · subst e2; rw [if_pos ⟨rfl, rfl⟩, if_pos rfl]
    · rw [if_neg (fun q => e2 q.2), if_neg e2, Int32.add_zero]
def CInv (W H : Nat) (C : Cel) (I0 : HI) (I : HI) (g i : Nat) : Prop :=
  (∀ a k, ¬ (a = 36 ∨ (44 ≤ a ∧ a ≤ 46)) → I a k = I0 a k) ∧
  (∀ c, I 44 c = if I0 44 c = -1 ∧ eIn W H C 1 c g i = true then Int32.ofNat g else I0 44 c) ∧
  (∀ c, I 45 c = if I0 45 c = -1 ∧ eIn W H C 0 c g i = true then Int32.ofNat g else I0 45 c) ∧
  (∀ c, I 46 c = I0 46 c + Int32.ofNat (cntB (fun j => decide (pC W H C g j = c)) i))
theorem CInv.fr {W H : Nat} {C : Cel} {I0 : HI} {I : HI} {g i : Nat} (h : CInv W H C I0 I g i) : ∀ a k, ¬ (a = 36 ∨ (44 ≤ a ∧ a ≤ 46)) → I a k = I0 a k := h.1
theorem CInv.ro {W H : Nat} {C : Cel} {I0 : HI} {I : HI} {g i : Nat} (h : CInv W H C I0 I g i) : ∀ c, I 44 c = if I0 44 c = -1 ∧ eIn W H C 1 c g i = true then Int32.ofNat g else I0 44 c := h.2.1
theorem CInv.co {W H : Nat} {C : Cel} {I0 : HI} {I : HI} {g i : Nat} (h : CInv W H C I0 I g i) : ∀ c, I 45 c = if I0 45 c = -1 ∧ eIn W H C 0 c g i = true then Int32.ofNat g else I0 45 c := h.2.2.1
theorem CInv.en {W H : Nat} {C : Cel} {I0 : HI} {I : HI} {g i : Nat} (h : CInv W H C I0 I g i) : ∀ c, I 46 c = I0 46 c + Int32.ofNat (cntB (fun j => decide (pC W H C g j = c)) i) := h.2.2.2
theorem CInv.mk {W H : Nat} {C : Cel} {I0 : HI} {I : HI} {g i : Nat} (c_fr : ∀ a k, ¬ (a = 36 ∨ (44 ≤ a ∧ a ≤ 46)) → I a k = I0 a k) (c_ro : ∀ c, I 44 c = if I0 44 c = -1 ∧ eIn W H C 1 c g i = true then Int32.ofNat g else I0 44 c) (c_co : ∀ c, I 45 c = if I0 45 c = -1 ∧ eIn W H C 0 c g i = true then Int32.ofNat g else I0 45 c) (c_en : ∀ c, I 46 c = I0 46 c + Int32.ofNat (cntB (fun j => decide (pC W H C g j = c)) i)) : CInv W H C I0 I g i := ⟨c_fr, c_ro, c_co, c_en⟩
theorem CInv.row {W H : Nat} {C : Cel} {I0 I : HI} {g i : Nat} (h : CInv W H C I0 I g i) {a : Nat} (ha : ¬ (a = 36 ∨ (44 ≤ a ∧ a ≤ 46))) : I a = I0 a := by
  funext k
  exact h.fr a k ha
theorem CInv.cur {W H : Nat} {C : Cel} {I0 I I' : HI} {g i : Nat} (h : CInv W H C I0 I g i) (h2 : ∀ a, a ≠ 36 → I' a = I a) : CInv W H C I0 I' g i :=
  CInv.mk (fun a k hf => by rw [h2 a (fun e => hf (Or.inl e))]; exact h.fr a k hf) (fun c => by rw [h2 44 (by decide)]; exact h.ro c) (fun c => by rw [h2 45 (by decide)]; exact h.co c) (fun c => by rw [h2 46 (by decide)]; exact h.en c)
theorem ne_or {c c' : Nat} {x g : Int32} {b : Bool} (hg : g ≠ -1) (q : Bool) : (if c' = c ∧ (if x = -1 ∧ b = true then g else x) = -1 ∧ q = true then g else (if x = -1 ∧ b = true then g else x)) = if x = -1 ∧ (b || (decide (c = c') && q)) = true then g else x := by
  by_cases h1 : x = -1
  · subst h1
    cases b
    · by_cases h2 : c' = c
      · subst h2
        cases q <;> simp
      · have : ¬ c = c' := fun e => h2 e.symm
        simp [h2, this]
    · simp [hg]
  · simp [h1]
theorem CInv.step {W H : Nat} {C : Cel} {I0 I : HI} {g i c : Nat} (h : CInv W H C I0 I g i) (hg : g < 28) (hc : pC W H C g i = c) :
    (pD4 W H C g i % 2 = 1 → CInv W H C I0 (neI 44 g c I) g (i + 1)) ∧ (pD4 W H C g i % 2 = 0 → CInv W H C I0 (neI 45 g c I) g (i + 1)) := by
  have hgn : Int32.ofNat g ≠ -1 := g_ne (by omega)
  have hcn : ∀ c', Int32.ofNat (cntB (fun j => decide (pC W H C g j = c')) i) + (if c' = c then 1 else 0) = Int32.ofNat (cntB (fun j => decide (pC W H C g j = c')) (i + 1)) := by
    intro c'
    have := cntB_b2 (fun j => decide (pC W H C g j = c')) i
    rw [← this]
    congr 1
    subst hc
    by_cases e : c' = pC W H C g i
    · rw [if_pos e, decide_eq_true e.symm]; rfl
    · rw [if_neg e, decide_eq_false (fun q => e q.symm)]; rfl
  constructor
  · intro hd
    refine CInv.mk (fun a k hf => ?_) (fun c' => ?_) (fun c' => ?_) (fun c' => ?_)
    · rw [neI_fr (by omega) (by omega)]; exact h.fr a k hf
    · rw [neI_a (by decide), h.ro c', h.ro c]
      show _ = if I0 44 c' = -1 ∧ (eIn W H C 1 c' g i || (decide (pC W H C g i = c') && decide (pD4 W H C g i % 2 = 1))) = true then _ else _
      rw [hc, ← ne_or hgn]
      by_cases e : c' = c
      · subst e; simp [hd]
      · simp [e]
    · rw [neI_fr (by decide) (by decide), h.co c']
      show _ = if I0 45 c' = -1 ∧ (eIn W H C 0 c' g i || (decide (pC W H C g i = c') && decide (pD4 W H C g i % 2 = 0))) = true then _ else _
      rw [hd]; simp
    · rw [neI_46 (by decide), h.en c', Int32.add_assoc, hcn]
  · intro hd
    refine CInv.mk (fun a k hf => ?_) (fun c' => ?_) (fun c' => ?_) (fun c' => ?_)
    · rw [neI_fr (by omega) (by omega)]; exact h.fr a k hf
    · rw [neI_fr (by decide) (by decide), h.ro c']
      show _ = if I0 44 c' = -1 ∧ (eIn W H C 1 c' g i || (decide (pC W H C g i = c') && decide (pD4 W H C g i % 2 = 1))) = true then _ else _
      rw [hd]; simp
    · rw [neI_a (by decide), h.co c', h.co c]
      show _ = if I0 45 c' = -1 ∧ (eIn W H C 0 c' g i || (decide (pC W H C g i = c') && decide (pD4 W H C g i % 2 = 0))) = true then _ else _
      rw [hc, ← ne_or hgn]
      by_cases e : c' = c
      · subst e; simp [hd]
      · simp [e]
    · rw [neI_46 (by decide), h.en c', Int32.add_assoc, hcn]
theorem path_at {I : HI} {g i v : Nat} (hg : g < 28) (hi : i < 98) (h : I 43 (98 * g + i) = Int32.ofNat v) : atI (I 43) 2744 (Int32.ofNat g * 98 + Int32.ofNat i) = Int32.ofNat v := by
  have e1 : Int32.ofNat g * 98 + Int32.ofNat i = Int32.ofNat (98 * g + i) := by
    have : Int32.ofNat g * 98 = Int32.ofNat (g * 98) := oN_mul g 98
    rw [this, oN_add, Nat.mul_comm]
  rw [e1, atI_oN (by omega) (by decide), h]
section CNT
variable {d nn Ln : Nat} {fz : Nat} {K : Post} {W H : Nat} {C : Cel} {g : Nat}
theorem lp_count {I0 : HI} {J : HJ} (hn : 59 ≤ nn) (hS : StC I0 W H C) (hg : g < 2 * (W + H)) (hln : I0 38 g = Int32.ofNat (bN W H C g)) (hpa : ∀ j, j < bN W H C g → I0 43 (98 * g + j) = Int32.ofNat (pC W H C g j))
    (hK : ∀ I, CInv W H C I0 I g (bN W H C g) → K (.inl none) (hp fz nn (lay Ln) I J)) :
    ∀ (m i : Nat) (I : HI), i + m = bN W H C g → (i < bN W H C g → Cur I (pS W H C g i)) → CInv W H C I0 I g i →
      EX (cal (d + 2)) 5 K 43 [some (.ref 35), some (.ref 2), some (.int (Int32.ofNat g)), some (.int (Int32.ofNat i)), none, none] [] (0, 0) (hp fz nn (lay Ln) I J) := by
  have hb := hS.1.g28
  have hWH := hS.1.n
  have hW := hS.W0
  have hH := hS.H0
  have hbn := bN_le (C := C) hW hH hg
  intro m
  induction m with
  | zero =>
    intro i I him hC hI
    obtain rfl : i = bN W H C g := him
    refine r_5_43 hn (if_y ?_ (hK I hI))
    rw [hI.row (by decide), atI_oN (by omega) (by decide), hln]
    exact le_y (Nat.le_refl _) (by omega)
  | succ m ih =>
    intro i I him hC hI
    have hC := hC (by omega)
    have hin := pS_in (C := C) hW hH hg (i := i) (by omega)
    have hcl := pC_lt (C := C) hW hH hg (i := i) (by omega)
    have hd4 := pD_lt (C := C) hW hH hg (i := i) (by omega)
    have hSI : StC I W H C := hS.mono (hI.row (by decide)) (hI.row (by decide))
    have hdir : I 36 2 = Int32.ofNat (pD4 W H C g i) := hC.2.2
    have hpath : atI (I 43) 2744 (Int32.ofNat g * 98 + Int32.ofNat i) = Int32.ofNat (pC W H C g i) := path_at (by omega) (by omega) (by rw [hI.row (by decide)]; exact hpa i (by omega))
    obtain ⟨sr, sc⟩ := hI.step (by omega) (rfl : pC W H C g i = _)
    have rest : ∀ (a : Nat) (x5 : Int32), a = 44 ∨ a = 45 → CInv W H C I0 (neI a g (pC W H C g i) I) g (i + 1) →
        EX (cal (d + 2)) 5 K 112 [some (.ref 35), some (.ref 2), some (.int (Int32.ofNat g)), some (.int (Int32.ofNat i)), some (.int (Int32.ofNat (pC W H C g i))), some (.int x5)] [] (0, 0) (hp fz nn (lay Ln) (neI a g (pC W H C g i) I) J) := by
      intro a x5 ha hI2
      have hrow : ∀ a', a' < 44 → neI a g (pC W H C g i) I a' = I a' := fun a' h => neI_fr (by omega) (by omega)
      refine r_5_112 hn ?_
      have hS2 : StC (neI a g (pC W H C g i) I) W H C := hSI.mono (hrow 2 (by decide)) (hrow 3 (by decide))
      rw [hS2.byt hcl]
      have hC2 : Cur (neI a g (pC W H C g i) I) (pS W H C g i) := by
        unfold Cur
        rw [hrow 36 (by decide)]
        exact hC
      refine sp_goOn hn hS2.1 hC2 hin (fun I' hfr hst => kc_0 rfl rfl (r_5_125 hn ?_))
      rw [oN_succ]
      refine ih (i + 1) I' (by omega) (fun hlt => ?_) (hI2.cur hfr)
      have e := (pS_succ (C := C) hW hH hg hlt).1
      have hst' : (match nxt W H C (pS W H C g i) with
        | .inl t => Cur I' t ∧ f_X1_gateBehind I' = -1
        | .inr q => f_X1_gateBehind I' = Int32.ofNat q) := hst
      rw [e] at hst'
      exact hst'.1
    refine r_5_43 hn (if_n ?_ ?_)
    · rw [hI.row (by decide), atI_oN (by omega) (by decide), hln]
      exact le_n (by omega) (by omega)
    · rw [hpath, hdir]
      rcases lt4 hd4 with e | e | e | e
      · rw [e]
        refine if_n (by decide) (if_n (by decide) (sp_X0_noteEntryb hn ?_))
        rw [neb_eq (by omega)]
        exact kc_0 rfl rfl (rest 45 0 (Or.inr rfl) (sc (by rw [e])))
      · rw [e]
        refine if_n (by decide) (if_y (by decide) (sp_X0_noteEntrya hn ?_))
        rw [nea_eq (by omega)]
        exact kc_0 rfl rfl (rest 44 1 (Or.inl rfl) (sr (by rw [e])))
      · rw [e]
        refine if_n (by decide) (if_n (by decide) (sp_X0_noteEntryb hn ?_))
        rw [neb_eq (by omega)]
        exact kc_0 rfl rfl (rest 45 0 (Or.inr rfl) (sc (by rw [e])))
      · rw [e]
        refine if_y (by decide) (sp_X0_noteEntrya hn ?_)
        rw [nea_eq (by omega)]
        exact kc_0 rfl rfl (rest 44 1 (Or.inl rfl) (sr (by rw [e])))
/-- the heap with a band more -/
def cnI (I : HI) (b : Bool) : HI := w2 (w2 I 35 11 (I 35 11 + 1)) 35 12 (I 35 12 + b2 b)
theorem crs_eq {J : HJ} (hg : g < 28) (h64 : ∀ i, i < bN W H C g → pC W H C g i < 64) (hj : J 42 g = twB (pC W H C g) (bN W H C g)) : f_X0_crossesItself (Int32.ofNat g) J = b2 (crB (pC W H C g) (bN W H C g)) := by
  unfold f_X0_crossesItself
  rw [atJ_oN hg (by decide), hj]
  have := twB_ne h64
  cases e : crB (pC W H C g) (bN W H C g) with
  | true =>
    rw [if_neg (fun q => this.mpr e ((cmp0 _).mp q))]; rfl
  | false =>
    rw [if_pos ((cmp0 _).mpr (Classical.byContradiction fun q => by rw [this.mp q] at e; cases e))]; rfl
theorem sp_countBand {I : HI} {J : HJ} (hn : 59 ≤ nn) (hS : StC I W H C) (hg : g < 2 * (W + H)) (hln : I 38 g = Int32.ofNat (bN W H C g)) (hpa : ∀ j, j < bN W H C g → I 43 (98 * g + j) = Int32.ofNat (pC W H C g j)) (htw : J 42 g = twB (pC W H C g) (bN W H C g))
    (hK : ∀ I', CInv W H C (cnI I (crB (pC W H C g) (bN W H C g))) I' g (bN W H C g) → K (.inl none) (hp fz nn (lay Ln) I' J)) :
    cal (d + 3) 5 [.ref 35, .ref 2, .int (Int32.ofNat g)] (hp fz nn (lay Ln) I J) K := by
  have hb := hS.1.g28
  have hWH := hS.1.n
  have hW := hS.W0
  have hH := hS.H0
  refine call_in (Nat.le_of_ble_eq_true rfl) rfl rfl (r_5_0 hn ?_)
  rw [crs_eq (by omega) (fun i hi => by have := pC_lt (C := C) hW hH hg hi; omega) htw]
  have hrow : ∀ b a, a ≠ 35 → cnI I b a = I a := fun b a h => by unfold cnI; rw [w2_other _ _ _ h, w2_other _ _ _ h]
  have fin : ∀ b, b = crB (pC W H C g) (bN W H C g) → EX (cal (d + 2)) 5 K 43 [some (.ref 35), some (.ref 2), some (.int (Int32.ofNat g)), some (.int 0), none, none] [] (0, 0) (hp fz nn (lay Ln) (fI_X1_enter (Int32.ofNat g) (cnI I b)) J) := by
    intro b hb'
    have hS2 : StC (cnI I b) W H C := hS.mono (hrow b 2 (by decide)) (hrow b 3 (by decide))
    rw [enter_eq hS2.1 hg]
    rw [← hb'] at hK
    refine lp_count hn hS2 hg (by rw [hrow b 38 (by decide)]; exact hln) (fun j hj => by rw [hrow b 43 (by decide)]; exact hpa j hj) hK (bN W H C g) 0 _ (by omega) (fun _ => ?_) ?_
    · rw [show pS W H C g 0 = ent W H g from rfl]
      exact cur3_cur _ _
    · refine CInv.mk (fun a k hf => ?_) (fun c => ?_) (fun c => ?_) (fun c => ?_)
      · rw [cur3_ne _ _ (fun e => hf (Or.inl e))]
      · rw [cur3_ne _ _ (by decide), if_neg (fun e => by cases e.2)]
      · rw [cur3_ne _ _ (by decide), if_neg (fun e => by cases e.2)]
      · rw [cur3_ne _ _ (by decide)]
        exact (Int32.add_zero _).symm
  refine if_c (fun h => ?_) (fun h => ?_)
  · exact fin false ((b2_0 _).mp h).symm
  · refine fin true ?_
    cases e : crB (pC W H C g) (bN W H C g) with
    | true => rfl
    | false => rw [e] at h; exact absurd rfl h
end CNT
