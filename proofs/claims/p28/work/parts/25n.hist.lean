/-! ===== the history: saved states by place, saved and restored ===== -/
abbrev Sto : Type := Nat × Nat × Cel
abbrev Sav : Type := Sto × Wds
/-- a state that is saved at a place -/
def SavR (I : HI) (p : Nat) (v : Sav) : Prop :=
  (I (11 + 6 * p) 0 = Int32.ofNat v.1.1) ∧
  (I (11 + 6 * p) 1 = Int32.ofNat v.1.2.1) ∧
  (2 ≤ v.1.1 ∧ v.1.1 ≤ 7) ∧
  (2 ≤ v.1.2.1 ∧ v.1.2.1 ≤ 7) ∧
  (∀ c, c < v.1.1 * v.1.2.1 → I (12 + 6 * p) c = v.1.2.2 c) ∧
  (I (14 + 6 * p) 0 = Int32.ofNat v.2.1) ∧
  (v.2.1 ≤ 8) ∧
  (∀ i, i < v.2.1 → I (15 + 6 * p) i = Int32.ofNat (v.2.2.1 i)) ∧
  (∀ i, i < v.2.1 → 1 ≤ v.2.2.1 i ∧ v.2.2.1 i ≤ 8) ∧
  (∀ i, i < v.2.1 → ∀ k, k < v.2.2.1 i → I (16 + 6 * p) (8 * i + k) = v.2.2.2 i k)
theorem SavR.w {I : HI} {p : Nat} {v : Sav} (h : SavR I p v) : I (11 + 6 * p) 0 = Int32.ofNat v.1.1 := h.1
theorem SavR.h {I : HI} {p : Nat} {v : Sav} (h : SavR I p v) : I (11 + 6 * p) 1 = Int32.ofNat v.1.2.1 := h.2.1
theorem SavR.ws {I : HI} {p : Nat} {v : Sav} (h : SavR I p v) : 2 ≤ v.1.1 ∧ v.1.1 ≤ 7 := h.2.2.1
theorem SavR.hs {I : HI} {p : Nat} {v : Sav} (h : SavR I p v) : 2 ≤ v.1.2.1 ∧ v.1.2.1 ≤ 7 := h.2.2.2.1
theorem SavR.cl {I : HI} {p : Nat} {v : Sav} (h : SavR I p v) : ∀ c, c < v.1.1 * v.1.2.1 → I (12 + 6 * p) c = v.1.2.2 c := h.2.2.2.2.1
theorem SavR.n {I : HI} {p : Nat} {v : Sav} (h : SavR I p v) : I (14 + 6 * p) 0 = Int32.ofNat v.2.1 := h.2.2.2.2.2.1
theorem SavR.n8 {I : HI} {p : Nat} {v : Sav} (h : SavR I p v) : v.2.1 ≤ 8 := h.2.2.2.2.2.2.1
theorem SavR.ln {I : HI} {p : Nat} {v : Sav} (h : SavR I p v) : ∀ i, i < v.2.1 → I (15 + 6 * p) i = Int32.ofNat (v.2.2.1 i) := h.2.2.2.2.2.2.2.1
theorem SavR.l8 {I : HI} {p : Nat} {v : Sav} (h : SavR I p v) : ∀ i, i < v.2.1 → 1 ≤ v.2.2.1 i ∧ v.2.2.1 i ≤ 8 := h.2.2.2.2.2.2.2.2.1
theorem SavR.lt {I : HI} {p : Nat} {v : Sav} (h : SavR I p v) : ∀ i, i < v.2.1 → ∀ k, k < v.2.2.1 i → I (16 + 6 * p) (8 * i + k) = v.2.2.2 i k := h.2.2.2.2.2.2.2.2.2
theorem SavR.mk {I : HI} {p : Nat} {v : Sav} (c_w : I (11 + 6 * p) 0 = Int32.ofNat v.1.1) (c_h : I (11 + 6 * p) 1 = Int32.ofNat v.1.2.1) (c_ws : 2 ≤ v.1.1 ∧ v.1.1 ≤ 7) (c_hs : 2 ≤ v.1.2.1 ∧ v.1.2.1 ≤ 7) (c_cl : ∀ c, c < v.1.1 * v.1.2.1 → I (12 + 6 * p) c = v.1.2.2 c) (c_n : I (14 + 6 * p) 0 = Int32.ofNat v.2.1) (c_n8 : v.2.1 ≤ 8) (c_ln : ∀ i, i < v.2.1 → I (15 + 6 * p) i = Int32.ofNat (v.2.2.1 i)) (c_l8 : ∀ i, i < v.2.1 → 1 ≤ v.2.2.1 i ∧ v.2.2.1 i ≤ 8) (c_lt : ∀ i, i < v.2.1 → ∀ k, k < v.2.2.1 i → I (16 + 6 * p) (8 * i + k) = v.2.2.2 i k) : SavR I p v := ⟨c_w, c_h, c_ws, c_hs, c_cl, c_n, c_n8, c_ln, c_l8, c_lt⟩
theorem SavR.mono {I I' : HI} {p : Nat} {v : Sav} (h : SavR I p v) (hf : ∀ a, 11 + 6 * p ≤ a → a ≤ 16 + 6 * p → I' a = I a) : SavR I' p v := by
  refine SavR.mk ?_ ?_ h.ws h.hs (fun c hc => ?_) ?_ h.n8 (fun i hi => ?_) h.l8 (fun i hi k hk => ?_)
  · rw [hf _ (by omega) (by omega)]; exact h.w
  · rw [hf _ (by omega) (by omega)]; exact h.h
  · rw [hf _ (by omega) (by omega)]; exact h.cl c hc
  · rw [hf _ (by omega) (by omega)]; exact h.n
  · rw [hf _ (by omega) (by omega)]; exact h.ln i hi
  · rw [hf _ (by omega) (by omega)]; exact h.lt i hi k hk
def savS (I : HI) (a b : Nat) : HI := cpI (w2 (w2 I a 0 (I 2 0)) a 1 ((w2 I a 0 (I 2 0)) 2 1)) 3 b 49
def savW (I : HI) (a b c : Nat) : HI := cpI (cpI (w2 I a 0 (I 5 0)) 6 b 8) 7 c 64
def getS (I : HI) (a b : Nat) : HI := cpI (w2 (w2 I 2 0 (I a 0)) 2 1 ((w2 I 2 0 (I a 0)) a 1)) b 3 49
def getW (I : HI) (a b c : Nat) : HI := cpI (cpI (w2 I 5 0 (I a 0)) b 6 8) c 7 64
def svP (I : HI) (p : Nat) : HI := savW (savS I (11 + 6 * p) (12 + 6 * p)) (14 + 6 * p) (15 + 6 * p) (16 + 6 * p)
def gtP (I : HI) (p : Nat) : HI := getW (getS I (11 + 6 * p) (12 + 6 * p)) (14 + 6 * p) (15 + 6 * p) (16 + 6 * p)
theorem cpI_row (I : HI) (b a z : Nat) {q : Nat} (h : q ≠ a) : cpI I b a z q = I q := by
  funext k
  rw [cpI_at, if_neg (fun e => h e.1)]
theorem svP_fr (I : HI) {p a : Nat} (h : ¬ (11 + 6 * p ≤ a ∧ a ≤ 16 + 6 * p)) : svP I p a = I a := by
  unfold svP savW savS
  rw [cpI_row _ _ _ _ (by omega), cpI_row _ _ _ _ (by omega), w2_other _ _ _ (by omega), cpI_row _ _ _ _ (by omega), w2_other _ _ _ (by omega), w2_other _ _ _ (by omega)]
theorem gtP_fr (I : HI) {p a : Nat} (h : ¬ (2 ≤ a ∧ a ≤ 3) ∧ ¬ (5 ≤ a ∧ a ≤ 7)) : gtP I p a = I a := by
  unfold gtP getW getS
  rw [cpI_row _ _ _ _ (by omega), cpI_row _ _ _ _ (by omega), w2_other _ _ _ (by omega), cpI_row _ _ _ _ (by omega), w2_other _ _ _ (by omega), w2_other _ _ _ (by omega)]
theorem svP_ok {I : HI} {W H : Nat} {C : Cel} {w : Wds} (hS : StC I W H C) (hw : WOK I w) (p : Nat) : SavR (svP I p) p ((W, H, C), w) := by
  have h49 := hS.1.n
  have hn8 := hw.n8
  unfold svP savW savS
  refine SavR.mk ?_ ?_ hS.1.2.2.1 hS.1.2.2.2 (fun c hc => ?_) ?_ hn8 (fun i hi => ?_) hw.l8 (fun i hi k hk => ?_)
  · rw [cpI_row _ _ _ _ (by omega), cpI_row _ _ _ _ (by omega), w2_ne _ _ (by omega), cpI_row _ _ _ _ (by omega), w2_at, if_neg (by omega), w2_at, if_pos ⟨rfl, rfl⟩]
    exact hS.1.1
  · rw [cpI_row _ _ _ _ (by omega), cpI_row _ _ _ _ (by omega), w2_ne _ _ (by omega), cpI_row _ _ _ _ (by omega), w2_at, if_pos ⟨rfl, rfl⟩, w2_ne _ _ (by omega)]
    exact hS.1.2.1
  · rw [cpI_row _ _ _ _ (by omega), cpI_row _ _ _ _ (by omega), w2_ne _ _ (by omega), cpI_at, if_pos ⟨rfl, by dsimp only at hc; omega⟩, w2_ne _ _ (by omega), w2_ne _ _ (by omega)]
    exact hS.2 c hc
  · rw [cpI_row _ _ _ _ (by omega), cpI_row _ _ _ _ (by omega), w2_at, if_pos ⟨rfl, rfl⟩, cpI_row _ _ _ _ (by omega), w2_ne _ _ (by omega), w2_ne _ _ (by omega)]
    exact hw.n
  · rw [cpI_row _ _ _ _ (by omega), cpI_at, if_pos ⟨rfl, by dsimp only at hi; omega⟩, w2_ne _ _ (by omega), cpI_row _ _ _ _ (by omega), w2_ne _ _ (by omega), w2_ne _ _ (by omega)]
    exact hw.ln i hi
  · have := hw.l8 i hi
    rw [cpI_at, if_pos ⟨rfl, by dsimp only at hi hk; omega⟩, cpI_row _ _ _ _ (by omega), w2_ne _ _ (by omega), cpI_row _ _ _ _ (by omega), w2_ne _ _ (by omega), w2_ne _ _ (by omega)]
    exact hw.lt i hi k hk
theorem gtP_ok {I : HI} {p : Nat} {v : Sav} (h : SavR I p v) : StC (gtP I p) v.1.1 v.1.2.1 v.1.2.2 ∧ WOK (gtP I p) v.2 := by
  have h49 : v.1.1 * v.1.2.1 ≤ 49 := n49 h.ws.2 h.hs.2
  have hn8 := h.n8
  unfold gtP getW getS
  refine ⟨⟨⟨?_, ?_, h.ws, h.hs⟩, fun c hc => ?_⟩, WOK.mk ?_ hn8 (fun i hi => ?_) h.l8 (fun i hi k hk => ?_)⟩
  · rw [cpI_row _ _ _ _ (by omega), cpI_row _ _ _ _ (by omega), w2_ne _ _ (by omega), cpI_row _ _ _ _ (by omega), w2_at, if_neg (by omega), w2_at, if_pos ⟨rfl, rfl⟩]
    exact h.w
  · rw [cpI_row _ _ _ _ (by omega), cpI_row _ _ _ _ (by omega), w2_ne _ _ (by omega), cpI_row _ _ _ _ (by omega), w2_at, if_pos ⟨rfl, rfl⟩, w2_ne _ _ (by omega)]
    exact h.h
  · rw [cpI_row _ _ _ _ (by omega), cpI_row _ _ _ _ (by omega), w2_ne _ _ (by omega), cpI_at, if_pos ⟨rfl, by omega⟩, w2_ne _ _ (by omega), w2_ne _ _ (by omega)]
    exact h.cl c hc
  · rw [cpI_row _ _ _ _ (by omega), cpI_row _ _ _ _ (by omega), w2_at, if_pos ⟨rfl, rfl⟩, cpI_row _ _ _ _ (by omega), w2_ne _ _ (by omega), w2_ne _ _ (by omega)]
    exact h.n
  · rw [cpI_row _ _ _ _ (by omega), cpI_at, if_pos ⟨rfl, by omega⟩, w2_ne _ _ (by omega), cpI_row _ _ _ _ (by omega), w2_ne _ _ (by omega), w2_ne _ _ (by omega)]
    exact h.ln i hi
  · have := h.l8 i hi
    rw [cpI_at, if_pos ⟨rfl, by omega⟩, cpI_row _ _ _ _ (by omega), w2_ne _ _ (by omega), cpI_row _ _ _ _ (by omega), w2_ne _ _ (by omega), w2_ne _ _ (by omega)]
    exact h.lt i hi k hk
/-- the saved states, the latest first -/
def HOK (I : HI) (hs : List Sav) : Prop := I 8 2 = Int32.ofNat hs.length ∧ hs.length ≤ 4 ∧ ∃ nx, nx < 4 ∧ I 8 3 = Int32.ofNat nx ∧ ∀ j v, hs[j]? = some v → SavR I ((nx + 3 - j) % 4) v
theorem HOK.mono {I I' : HI} {hs : List Sav} (h : HOK I hs) (hf : ∀ a, 8 ≤ a → a ≤ 34 → I' a = I a) : HOK I' hs := by
  obtain ⟨h1, h2, nx, h3, h4, h5⟩ := h
  refine ⟨by rw [hf 8 (by decide) (by decide)]; exact h1, h2, nx, h3, by rw [hf 8 (by decide) (by decide)]; exact h4, fun j v hv => (h5 j v hv).mono (fun a h6 h7 => hf a ?_ ?_)⟩
  · omega
  · have := Nat.mod_lt (nx + 3 - j) (show 0 < 4 by decide)
    omega
theorem HOK_w {I : HI} {hs : List Sav} {W H : Nat} {C : Cel} {w : Wds} {nx : Nat} (hS : StC I W H C) (hw : WOK I w) (h2 : hs.length ≤ 4) (h3 : nx < 4) (h5 : ∀ j v, hs[j]? = some v → SavR I ((nx + 3 - j) % 4) v) {x y : Int32} (hx : x = Int32.ofNat ((nx + 1) % 4)) (hy : y = Int32.ofNat ((((W, H, C), w) :: hs).take 4).length) :
    HOK (w2 (w2 (svP I nx) 8 3 x) 8 2 y) ((((W, H, C), w) :: hs).take 4) := by
  subst hx
  subst hy
  have hl : ((((W, H, C), w) :: hs).take 4).length ≤ 4 := by rw [List.length_take]; omega
  refine ⟨by rw [w2_at, if_pos ⟨rfl, rfl⟩], hl, (nx + 1) % 4, Nat.mod_lt _ (by decide), by rw [w2_at, if_neg (by decide), w2_at, if_pos ⟨rfl, rfl⟩], fun j v hv => ?_⟩
  have hj : j < 4 := by
    have := (List.getElem?_eq_some_iff.mp hv).1
    omega
  have hfr : ∀ q a, 11 + 6 * q ≤ a → w2 (w2 (svP I nx) 8 3 (Int32.ofNat ((nx + 1) % 4))) 8 2 (Int32.ofNat ((((W, H, C), w) :: hs).take 4).length) a = svP I nx a := fun q a ha => by rw [w2_other _ _ _ (by omega), w2_other _ _ _ (by omega)]
  rw [List.getElem?_take, if_pos hj] at hv
  cases j with
  | zero =>
    cases hv
    have e : ((nx + 1) % 4 + 3 - 0) % 4 = nx := by omega
    rw [e]
    exact (svP_ok hS hw nx).mono (fun a h6 _ => hfr nx a h6)
  | succ j =>
    rw [List.getElem?_cons_succ] at hv
    have e : ((nx + 1) % 4 + 3 - (j + 1)) % 4 = (nx + 3 - j) % 4 := by omega
    have ne : (nx + 3 - j) % 4 ≠ nx := by omega
    rw [e]
    refine (h5 j v hv).mono (fun a h6 h7 => ?_)
    rw [hfr _ a h6]
    exact svP_fr I (by omega)
section HIS
variable {d nn Ln : Nat} {fz : Nat} {K : Post} {I : HI} {J : HJ} {W H : Nat} {C : Cel} {w : Wds} {hs : List Sav}
theorem sp_takeS {a : Nat} (hn : 59 ≤ nn) (ha : a + 1 < nn) (hsa : lay Ln a = (15, 0, [0, 0, a + 1 + 3, a + 2 + 3])) (hsb : lay Ln (a + 1) = (0, 49, [])) (hne : 3 ≠ a + 1) (hK : K (.inl none) (hp fz nn (lay Ln) (savS I a (a + 1)) J)) : cal (d + 2) 48 [.ref a, .ref 2] (hp fz nn (lay Ln) I J) K :=
  call_in (Nat.le_of_ble_eq_true rfl) rfl rfl (ra_48_0 hn (by omega) hsa ha hsb hne hK)
theorem sp_takeS2 {a : Nat} (hn : 59 ≤ nn) (ha : a + 1 < nn) (hsa : lay Ln a = (15, 0, [0, 0, a + 1 + 3, a + 2 + 3])) (hsb : lay Ln (a + 1) = (0, 49, [])) (hne : a + 1 ≠ 3) (hK : K (.inl none) (hp fz nn (lay Ln) (getS I a (a + 1)) J)) : cal (d + 2) 48 [.ref 2, .ref a] (hp fz nn (lay Ln) I J) K :=
  call_in (Nat.le_of_ble_eq_true rfl) rfl rfl (rb_48_0 hn (by omega) hsa ha hsb hne hK)
theorem sp_takeW {a : Nat} (hn : 59 ≤ nn) (ha : a + 2 < nn) (hsa : lay Ln a = (17, 0, [0, a + 1 + 3, a + 2 + 3])) (hsb : lay Ln (a + 1) = (0, 8, [])) (hsc : lay Ln (a + 2) = (0, 64, [])) (hne : 6 ≠ a + 1) (hne2 : 7 ≠ a + 2) (hK : K (.inl none) (hp fz nn (lay Ln) (savW I a (a + 1) (a + 2)) J)) : cal (d + 2) 70 [.ref a, .ref 5] (hp fz nn (lay Ln) I J) K :=
  call_in (Nat.le_of_ble_eq_true rfl) rfl rfl (ra_70_0 hn (by omega) hsa (by omega) hsb ha hsc hne hne2 hK)
theorem sp_takeW2 {a : Nat} (hn : 59 ≤ nn) (ha : a + 2 < nn) (hsa : lay Ln a = (17, 0, [0, a + 1 + 3, a + 2 + 3])) (hsb : lay Ln (a + 1) = (0, 8, [])) (hsc : lay Ln (a + 2) = (0, 64, [])) (hne : a + 1 ≠ 6) (hne2 : a + 2 ≠ 7) (hK : K (.inl none) (hp fz nn (lay Ln) (getW I a (a + 1) (a + 2)) J)) : cal (d + 2) 70 [.ref 5, .ref a] (hp fz nn (lay Ln) I J) K :=
  call_in (Nat.le_of_ble_eq_true rfl) rfl rfl (rb_70_0 hn (by omega) hsa (by omega) hsb ha hsc hne hne2 hK)
theorem sp_save (hn : 59 ≤ nn) (hS : StC I W H C) (hw : WOK I w) (hh : HOK I hs) (hK : ∀ I', (∀ a, ¬ (8 ≤ a ∧ a ≤ 34) → I' a = I a) → HOK I' ((((W, H, C), w) :: hs).take 4) → K (.inl none) (hp fz nn (lay Ln) I' J)) :
    cal (d + 3) 26 [.ref 8, .ref 2, .ref 5] (hp fz nn (lay Ln) I J) K := by
  obtain ⟨h1, h2, nx, h3, h4, h5⟩ := hh
  refine call_in (Nat.le_of_ble_eq_true rfl) rfl rfl (r_26_0 hn ?_)
  have hz : ∀ x y : Int32, x = Int32.ofNat ((nx + 1) % 4) → y = Int32.ofNat ((((W, H, C), w) :: hs).take 4).length → K (.inl none) (hp fz nn (lay Ln) (w2 (w2 (svP I nx) 8 3 x) 8 2 y) J) := by
    intro x y hx hy
    refine hK _ (fun a ha => ?_) (HOK_w hS hw h2 h3 h5 hx hy)
    rw [w2_other _ _ _ (by omega), w2_other _ _ _ (by omega)]
    exact svP_fr I (by omega)
  have e3 : ∀ p, svP I p 8 = I 8 := fun p => svP_fr I (by omega)
  have el : (if (4 : Int32) < I 8 2 + 1 then 4 else I 8 2 + 1) = Int32.ofNat ((((W, H, C), w) :: hs).take 4).length := by
    rw [h1, oN_succ, List.length_take, List.length_cons]
    by_cases q : 4 < hs.length + 1
    · rw [if_pos (show (4 : Int32) < Int32.ofNat (hs.length + 1) from lt_y (a := 4) q (by omega)), show min 4 (hs.length + 1) = 4 by omega]; rfl
    · rw [if_neg (show ¬ (4 : Int32) < Int32.ofNat (hs.length + 1) from lt_n (a := 4) (by omega) (by omega)), show min 4 (hs.length + 1) = hs.length + 1 by omega]
  rw [h4]
  have hq : nx = 0 ∨ nx = 1 ∨ nx = 2 ∨ nx = 3 := by omega
  rcases hq with rfl | rfl | rfl | rfl
  · refine sp_X2_stoneAt0 (d := d + 1) hn (kc_v rfl rfl (rh0_26_8 hn ?_))
    rw [h4]
    refine sp_X2_wordsAt0 (d := d + 1) hn (kc_v rfl rfl (rh0_26_17 hn ?_))
    refine sp_takeS (a := 11) hn (by omega) rfl rfl (by decide) (kc_0 rfl rfl (rh0_26_33 hn ?_))
    refine sp_takeW (a := 14) hn (by omega) rfl rfl rfl (by decide) (by decide) (kc_0 rfl rfl (rh0_26_39 hn ?_))
    refine hz _ _ ?_ ?_
    · show (svP I 0 8 3 + 1) - (svP I 0 8 3 + 1) / 4 * 4 = _
      rw [e3, h4]; decide
    · show (if (4 : Int32) < svP I 0 8 2 + 1 then 4 else svP I 0 8 2 + 1) = _
      rw [e3]; exact el
  · refine sp_X2_stoneAt1 (d := d + 1) hn (kc_v rfl rfl (rh1_26_8 hn ?_))
    rw [h4]
    refine sp_X2_wordsAt1 (d := d + 1) hn (kc_v rfl rfl (rh1_26_17 hn ?_))
    refine sp_takeS (a := 17) hn (by omega) rfl rfl (by decide) (kc_0 rfl rfl (rh1_26_33 hn ?_))
    refine sp_takeW (a := 20) hn (by omega) rfl rfl rfl (by decide) (by decide) (kc_0 rfl rfl (rh1_26_39 hn ?_))
    refine hz _ _ ?_ ?_
    · show (svP I 1 8 3 + 1) - (svP I 1 8 3 + 1) / 4 * 4 = _
      rw [e3, h4]; decide
    · show (if (4 : Int32) < svP I 1 8 2 + 1 then 4 else svP I 1 8 2 + 1) = _
      rw [e3]; exact el
  · refine sp_X2_stoneAt2 (d := d + 1) hn (kc_v rfl rfl (rh2_26_8 hn ?_))
    rw [h4]
    refine sp_X2_wordsAt2 (d := d + 1) hn (kc_v rfl rfl (rh2_26_17 hn ?_))
    refine sp_takeS (a := 23) hn (by omega) rfl rfl (by decide) (kc_0 rfl rfl (rh2_26_33 hn ?_))
    refine sp_takeW (a := 26) hn (by omega) rfl rfl rfl (by decide) (by decide) (kc_0 rfl rfl (rh2_26_39 hn ?_))
    refine hz _ _ ?_ ?_
    · show (svP I 2 8 3 + 1) - (svP I 2 8 3 + 1) / 4 * 4 = _
      rw [e3, h4]; decide
    · show (if (4 : Int32) < svP I 2 8 2 + 1 then 4 else svP I 2 8 2 + 1) = _
      rw [e3]; exact el
  · refine sp_X2_stoneAt3 (d := d + 1) hn (kc_v rfl rfl (rh3_26_8 hn ?_))
    rw [h4]
    refine sp_X2_wordsAt3 (d := d + 1) hn (kc_v rfl rfl (rh3_26_17 hn ?_))
    refine sp_takeS (a := 29) hn (by omega) rfl rfl (by decide) (kc_0 rfl rfl (rh3_26_33 hn ?_))
    refine sp_takeW (a := 32) hn (by omega) rfl rfl rfl (by decide) (by decide) (kc_0 rfl rfl (rh3_26_39 hn ?_))
    refine hz _ _ ?_ ?_
    · show (svP I 3 8 3 + 1) - (svP I 3 8 3 + 1) / 4 * 4 = _
      rw [e3, h4]; decide
    · show (if (4 : Int32) < svP I 3 8 2 + 1 then 4 else svP I 3 8 2 + 1) = _
      rw [e3]; exact el
theorem sp_restore {v : Sav} (hn : 59 ≤ nn) (hh : HOK I (v :: hs)) (hK : ∀ I', (∀ a, ¬ (2 ≤ a ∧ a ≤ 3) → ¬ (5 ≤ a ∧ a ≤ 8) → I' a = I a) → HOK I' hs → StC I' v.1.1 v.1.2.1 v.1.2.2 → WOK I' v.2 → K (.inl none) (hp fz nn (lay Ln) I' J)) :
    cal (d + 3) 27 [.ref 8, .ref 2, .ref 5] (hp fz nn (lay Ln) I J) K := by
  obtain ⟨h1, h2, nx, h3, h4, h5⟩ := hh
  refine call_in (Nat.le_of_ble_eq_true rfl) rfl rfl (r_27_0 hn ?_)
  have hl : hs.length ≤ 3 := by rw [List.length_cons] at h2; omega
  have h0 := h5 0 v rfl
  have e1 : ((I 8 3 + 4) - 1) - ((I 8 3 + 4) - 1) / 4 * 4 = Int32.ofNat ((nx + 3) % 4) := by
    rw [h4]
    have hq : nx = 0 ∨ nx = 1 ∨ nx = 2 ∨ nx = 3 := by omega
    rcases hq with rfl | rfl | rfl | rfl <;> decide
  have e2 : (if I 8 2 - 1 < 0 then 0 else I 8 2 - 1) = Int32.ofNat hs.length := by
    have : I 8 2 - 1 = Int32.ofNat hs.length := by
      rw [h1, List.length_cons]
      exact oN_sub (b := 1) (by omega)
    rw [this, if_neg (oN_nneg (by omega))]
  rw [e1, e2]
  generalize hI1 : w2 (w2 I 8 3 (Int32.ofNat ((nx + 3) % 4))) 8 2 (Int32.ofNat hs.length) = I1
  have f1 : ∀ a, a ≠ 8 → I1 a = I a := fun a ha => by rw [← hI1, w2_other _ _ _ ha, w2_other _ _ _ ha]
  have g3 : I1 8 3 = Int32.ofNat ((nx + 3) % 4) := by rw [← hI1, w2_at, if_neg (by decide), w2_at, if_pos ⟨rfl, rfl⟩]
  have g2 : I1 8 2 = Int32.ofNat hs.length := by rw [← hI1, w2_at, if_pos ⟨rfl, rfl⟩]
  have hnx := Nat.mod_lt (nx + 3) (show 0 < 4 by decide)
  have hz : ∀ p, p = (nx + 3) % 4 → K (.inl none) (hp fz nn (lay Ln) (gtP I1 p) J) := by
    rintro p rfl
    have hv : SavR I1 ((nx + 3) % 4) v := h0.mono (fun a h6 _ => f1 a (by omega))
    obtain ⟨k1, k2⟩ := gtP_ok hv
    refine hK _ (fun a h6 h7 => ?_) ⟨?_, by omega, (nx + 3) % 4, hnx, ?_, fun j u hu => ?_⟩ k1 k2
    · rw [gtP_fr I1 (by omega)]; exact f1 a (by omega)
    · rw [gtP_fr I1 (by omega)]; exact g2
    · rw [gtP_fr I1 (by omega)]; exact g3
    · have hj : j < hs.length := (List.getElem?_eq_some_iff.mp hu).1
      have := h5 (j + 1) u (by rw [List.getElem?_cons_succ]; exact hu)
      rw [show ((nx + 3) % 4 + 3 - j) % 4 = (nx + 3 - (j + 1)) % 4 by omega]
      refine this.mono (fun a h6 _ => ?_)
      rw [gtP_fr I1 (by omega)]; exact f1 a (by omega)
  generalize hp9 : (nx + 3) % 4 = p9 at *
  have hq : p9 = 0 ∨ p9 = 1 ∨ p9 = 2 ∨ p9 = 3 := by omega
  rcases hq with rfl | rfl | rfl | rfl
  · refine sp_X2_stoneAt0 (d := d + 1) hn (kc_v rfl rfl (rh0_27_36 hn ?_))
    rw [g3]
    refine sp_X2_wordsAt0 (d := d + 1) hn (kc_v rfl rfl (rh0_27_45 hn ?_))
    refine sp_takeS2 (a := 11) hn (by omega) rfl rfl (by decide) (kc_0 rfl rfl (rh0_27_61 hn ?_))
    refine sp_takeW2 (a := 14) hn (by omega) rfl rfl rfl (by decide) (by decide) (kc_0 rfl rfl (rh0_27_67 hn ?_))
    exact hz 0 rfl
  · refine sp_X2_stoneAt1 (d := d + 1) hn (kc_v rfl rfl (rh1_27_36 hn ?_))
    rw [g3]
    refine sp_X2_wordsAt1 (d := d + 1) hn (kc_v rfl rfl (rh1_27_45 hn ?_))
    refine sp_takeS2 (a := 17) hn (by omega) rfl rfl (by decide) (kc_0 rfl rfl (rh1_27_61 hn ?_))
    refine sp_takeW2 (a := 20) hn (by omega) rfl rfl rfl (by decide) (by decide) (kc_0 rfl rfl (rh1_27_67 hn ?_))
    exact hz 1 rfl
  · refine sp_X2_stoneAt2 (d := d + 1) hn (kc_v rfl rfl (rh2_27_36 hn ?_))
    rw [g3]
    refine sp_X2_wordsAt2 (d := d + 1) hn (kc_v rfl rfl (rh2_27_45 hn ?_))
    refine sp_takeS2 (a := 23) hn (by omega) rfl rfl (by decide) (kc_0 rfl rfl (rh2_27_61 hn ?_))
    refine sp_takeW2 (a := 26) hn (by omega) rfl rfl rfl (by decide) (by decide) (kc_0 rfl rfl (rh2_27_67 hn ?_))
    exact hz 2 rfl
  · refine sp_X2_stoneAt3 (d := d + 1) hn (kc_v rfl rfl (rh3_27_36 hn ?_))
    rw [g3]
    refine sp_X2_wordsAt3 (d := d + 1) hn (kc_v rfl rfl (rh3_27_45 hn ?_))
    refine sp_takeS2 (a := 29) hn (by omega) rfl rfl (by decide) (kc_0 rfl rfl (rh3_27_61 hn ?_))
    refine sp_takeW2 (a := 32) hn (by omega) rfl rfl rfl (by decide) (by decide) (kc_0 rfl rfl (rh3_27_67 hn ?_))
    exact hz 3 rfl
end HIS
