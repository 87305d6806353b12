/-! ===== what areChoices needs ===== -/
theorem bt_xn (x : Int64) {c : Nat} (hc : c < 64) : bt (x ^^^ (-1)) c = !bt x c := by
  have e1 : (-1 : Int64).toBitVec.getLsbD c = true := by
    have : ∀ c, c < 64 → (-1 : Int64).toBitVec.getLsbD c = true := by decide
    exact this c hc
  unfold bt
  rw [Int64.toBitVec_xor, BitVec.getLsbD_xor, e1, Bool.xor_true]
theorem opn_in {all cov : Int64} (h : opn all cov = 0) {c : Nat} (hc : bt all c = true) : bt cov c = true := by
  have h1 := congrArg (fun x => bt x c) h
  have hl := bt_ltc hc
  unfold opn at h1
  replace h1 : bt (all &&& (cov ^^^ -1)) c = bt 0 c := h1
  rw [bt_and, bt_zero, bt_xn _ hl, hc, Bool.true_and] at h1
  cases e : bt cov c with
  | true => rfl
  | false => rw [e] at h1; cases h1
section CHF
variable {W H : Nat} {C : Cel}
/-- the first choice, empty if there is none -/
noncomputable def chP (W H : Nat) (C : Cel) : List Int32 := if sFd (runC W H C 50) = 0 then [] else sFs (runC W H C 1)
theorem fd1 : sFd (runC W H C 1) = min 1 (sFd (runC W H C 50)) := run_fd (Nat.le_refl 1) (by decide)
theorem chP_len : (chP W H C).length ≤ 28 := by
  unfold chP
  split
  · exact Nat.zero_le _
  · exact (runC_ok (W := W) (H := H) (C := C) (Nat.le_refl 1)).2.2.2
theorem chP_val {k : Nat} (hk : k < 2 ^ 31) : chV W H C (Int32.ofNat k) = if k < (chP W H C).length then (chP W H C).getD k 0 else -1 := by
  have hl := (runC_ok (W := W) (H := H) (C := C) (Nat.le_refl 1)).2.2.2
  have h1 := fd1 (W := W) (H := H) (C := C)
  unfold chV chP
  by_cases e : sFd (runC W H C 50) = 0
  · rw [if_pos (by omega), if_pos e]; exact (if_neg (Nat.not_lt_zero k)).symm
  · rw [if_neg (by omega), if_neg e, oN_clamp hk]
    by_cases z : k < (sFs (runC W H C 1)).length
    · rw [if_pos z, if_neg (fun y => by have := (oN_le (by omega) hk).mp y; omega)]
    · rw [if_neg z, if_pos ((oN_le (by omega) hk).mpr (by omega))]
theorem chP_mk {j : Nat} (hj : j < (chP W H C).length) : mkS W H C ((chP W H C).getD j 0) ≠ 0 ∧ mkS W H C ((chP W H C).getD j 0) &&& covL (mkS W H C) ((chP W H C).take j) = 0 := by
  have h1 := fd1 (W := W) (H := H) (C := C)
  by_cases e : sFd (runC W H C 50) = 0
  · unfold chP at hj; rw [if_pos e] at hj; exact absurd hj (Nat.not_lt_zero j)
  · have hv := (run_inv (W := W) (H := H) (C := C) (m := 1)).2 (by omega)
    have he : chP W H C = sFs (runC W H C 1) := by unfold chP; rw [if_neg e]
    rw [he] at hj ⊢
    exact hv.1 j hj
theorem chP_cov (h49 : W * H ≤ 49) (e : sFd (runC W H C 50) ≠ 0) {c : Nat} (hc : c < W * H) (hr : isRB (C c) = true) : bt (covL (mkS W H C) (chP W H C)) c = true := by
  have h1 := fd1 (W := W) (H := H) (C := C)
  have hv := (run_inv (W := W) (H := H) (C := C) (m := 1)).2 (by omega)
  have he : chP W H C = sFs (runC W H C 1) := by unfold chP; rw [if_neg e]
  rw [he]
  refine opn_in hv.2 ?_
  rw [bt_rmask (by omega), decide_eq_true hc, hr]; rfl
theorem chP_few : sFd (runC W H C 50) ≠ 0 → sSm (runC W H C 50) ≤ (chP W H C).length ∧ (sSm (runC W H C 50) = 0 → rmask C (W * H) = 0) := by
  intro e
  have hv := (run_inv (W := W) (H := H) (C := C) (m := 50)).1 (by omega)
  have he : chP W H C = sFs (runC W H C 50) := by unfold chP; rw [if_neg e, run_fs (by omega)]
  rw [he]
  exact hv
theorem take_s {p : List Int32} {j : Nat} (hj : j < p.length) : p.take (j + 1) = p.take j ++ [p.getD j 0] := by
  rw [List.take_add_one, List.getElem?_eq_getElem hj, List.getD_eq_getElem?_getD, List.getElem?_eq_getElem hj]
  rfl
theorem seen_step {cov rm : Int64} {f : Nat → Nat} {i p : Nat} (hp : f i = p) (h64 : p < 64) {b : Bool} (hb : bt rm p = b) : (cov ||| (orB f i &&& rm)) ||| (if b = true then (1 : Int64) <<< ((Int32.ofNat p).toInt64 &&& 63) else 0) = cov ||| (orB f (i + 1) &&& rm) := by
  apply bt_ext
  intro c _
  show bt _ c = bt (cov ||| ((orB f i ||| bitL (f i)) &&& rm)) c
  rw [hp, bt_or, bt_or, bt_or, bt_and, bt_and, bt_or, bt_bit h64]
  cases b with
  | true =>
    rw [if_pos rfl]
    have : bt ((1 : Int64) <<< ((Int32.ofNat p).toInt64 &&& 63)) c = decide (c = p) := bt_bit h64 c
    rw [this]
    by_cases e : c = p
    · subst e
      rw [hb, decide_eq_true rfl]
      cases bt cov c <;> cases bt (orB f i) c <;> rfl
    · rw [decide_eq_false e]
      cases bt cov c <;> cases bt (orB f i) c <;> cases bt rm c <;> rfl
  | false =>
    rw [if_neg (by decide), bt_zero]
    by_cases e : c = p
    · subst e
      rw [hb, Bool.and_false, Bool.and_false, Bool.or_false]
    · rw [decide_eq_false e]
      cases bt cov c <;> cases bt (orB f i) c <;> cases bt rm c <;> rfl
theorem hasC_1 {c : Nat} {v : Int32} (h : hasC W H C c v = true) : sFd (runC W H (updC C c v) 1) = 1 := by
  unfold hasC at h
  have h1 := of_decide_eq_true h
  have h2 := (runC_ok (W := W) (H := H) (C := updC C c v) (Nat.le_refl 1)).2.1
  omega
theorem told_01 {w : Wds} (h49 : W * H ≤ 49) : ¬ Op.cmpValue (FP.dcmp (toldV W H C w) FP.dconst0) .l < 0 ∧ ¬ 0 < Op.cmpValue (FP.dcmp (toldV W H C w) FP.dconst1) .g := by
  rw [toldV_eq h49]
  by_cases e : cntB (fun c => isRB (C c)) (W * H) = 0
  · rw [if_pos e]; decide +kernel
  · rw [if_neg e]
    have h1 := goodN_le (C := C) (w := w) h49
    have h2 := cntB_le (fun c => isRB (C c)) (W * H)
    have h3 := div_01 _ (show goodN W H C w < 50 by omega) _ (show cntB (fun c => isRB (C c)) (W * H) < 50 by omega) e h1
    exact ⟨Int32.not_lt.mpr h3.1, Int32.not_lt.mpr h3.2⟩
theorem told_eq {w : Wds} (h49 : W * H ≤ 49) : Op.cmpValue (FP.dcmp (toldV W H C w) (toldV W H C w)) .l = 0 := by
  rw [toldV_eq h49]
  by_cases e : cntB (fun c => isRB (C c)) (W * H) = 0
  · rw [if_pos e]; decide +kernel
  · rw [if_neg e]
    have h1 := goodN_le (C := C) (w := w) h49
    have h2 := cntB_le (fun c => isRB (C c)) (W * H)
    exact div_eq _ (show goodN W H C w < 50 by omega) _ (show cntB (fun c => isRB (C c)) (W * H) < 50 by omega) e h1
end CHF
