/-! ===== what areBands needs ===== -/
theorem sr_bit {c : Nat} (h : c < 64) (x : Int64) : ((x >>> ((Int32.ofNat c).toInt64 &&& 63)) &&& 1) = if bt x c then 1 else 0 := by
  have e1 : ∀ c, c < 64 → (((Int32.ofNat c).toInt64 &&& 63).toBitVec.smod 64) = BitVec.ofNat 64 c := by decide
  have e2 : (x >>> ((Int32.ofNat c).toInt64 &&& 63)).toBitVec = x.toBitVec.sshiftRight c := by
    rw [Int64.toBitVec_shiftRight, e1 c h]
    show x.toBitVec.sshiftRight (BitVec.ofNat 64 c).toNat = _
    rw [BitVec.toNat_ofNat, Nat.mod_eq_of_lt (by omega)]
  apply Int64.toBitVec_inj.mp
  rw [Int64.toBitVec_and, e2]
  apply BitVec.eq_of_getLsbD_eq
  intro i hi
  rw [BitVec.getLsbD_and]
  by_cases z : i = 0
  · subst z
    rw [BitVec.getLsbD_sshiftRight]
    have : (bt x c : Bool) = x.toBitVec.getLsbD c := rfl
    cases e : bt x c with
    | true => rw [e] at this; rw [Nat.add_zero, ← this]; simp [h]
    | false => rw [e] at this; rw [Nat.add_zero, ← this]; simp [h]
  · have o1 : (1 : Int64).toBitVec.getLsbD i = false := by
      have : ∀ i, i < 64 → i ≠ 0 → (1 : Int64).toBitVec.getLsbD i = false := by decide
      exact this i hi z
    have o0 : (0 : Int64).toBitVec.getLsbD i = false := by
      have : ∀ i, i < 64 → (0 : Int64).toBitVec.getLsbD i = false := by decide
      exact this i hi
    rw [o1, Bool.and_false]
    cases e : bt x c with
    | true => exact o1.symm
    | false => exact o0.symm
theorem sr_1 {c : Nat} (h : c < 64) (x : Int64) : lg_cmp ((x >>> ((Int32.ofNat c).toInt64 &&& 63)) &&& 1) 1 = 0 ↔ bt x c = true := by
  rw [sr_bit h]
  cases bt x c <;> decide
theorem sr_0 {c : Nat} (h : c < 64) (x : Int64) : lg_cmp ((x >>> ((Int32.ofNat c).toInt64 &&& 63)) &&& 1) 0 = 0 ↔ bt x c = false := by
  rw [sr_bit h]
  cases bt x c <;> decide
theorem cr_bt {f : Nat → Nat} {n : Nat} (hf : ∀ i, i < n → f i < 64) : crB f (n + 1) = (crB f n || bt (orB f n) (f n)) := by
  show (crB f n || decide (0 < cntB (fun i => decide (f i = f n)) n)) = _
  congr 1
  rw [Bool.eq_iff_iff, decide_eq_true_iff, cntB_pos, bt_orB hf]
  constructor
  · rintro ⟨i, h1, h2⟩; exact ⟨i, h1, of_decide_eq_true h2⟩
  · rintro ⟨i, h1, h2⟩; exact ⟨i, h1, decide_eq_true h2⟩
theorem near4 {a b W : Nat} (h : a + 1 = b ∨ a = b + 1 ∨ a + W = b ∨ a = b + W) : Int32.ofNat a - Int32.ofNat b = 1 ∨ Int32.ofNat a - Int32.ofNat b = -1 ∨ Int32.ofNat a - Int32.ofNat b = Int32.ofNat W ∨ Int32.ofNat a - Int32.ofNat b = -Int32.ofNat W := by
  have key : ∀ x y : Nat, Int32.ofNat x - Int32.ofNat (x + y) = -Int32.ofNat y := by
    intro x y
    rw [← Int32.neg_sub, oN_sub (Nat.le_add_right x y), Nat.add_sub_cancel_left]
  rcases h with h | h | h | h
  · right; left; rw [← h, key]; rfl
  · left; rw [h, oN_sub (by omega), Nat.add_sub_cancel_left]; rfl
  · right; right; right; rw [← h, key]
  · right; right; left; rw [h, oN_sub (by omega), Nat.add_sub_cancel_left]
theorem hp_row {m Ln : Nat} {I I' : HI} {J : HJ} (h : ∀ a, a < 59 → I' a = I a) : hp m 59 (lay Ln) I' J = hp m 59 (lay Ln) I J := by
  unfold hp
  congr 1
  apply List.map_congr_left
  intro a ha
  rw [h a (List.mem_range.mp ha)]
/-- what areBands changes: the row, and what questions change -/
def RQ (I I' : HI) : Prop := ∀ a, ¬ (47 ≤ a ∧ a ≤ 56) → a ≠ 59 → I' a = I a
theorem RQ.rf (I : HI) : RQ I I := fun _ _ _ => rfl
theorem RQ.tr {I I' I'' : HI} (h : RQ I I') (h2 : RQ I' I'') : RQ I I'' := fun a x y => (h2 a x y).trans (h a x y)
theorem QF.rq {I I' : HI} {J : HJ} (h : QF I J I' J) : RQ I I' := fun a x _ => h.1 a x
theorem w2_rq {I : HI} {k : Nat} {v : Int32} : RQ I (w2 I 59 k v) := fun a _ y => by funext q; rw [w2_at, if_neg (fun z => y z.1)]
theorem CSt.r {I I' : HI} {J : HJ} {W H : Nat} {C : Cel} {w : Wds} {hs : List Sav} {t : Nat} {T : Nat → Int32} (h : CSt I J W H C w hs t T) (hq : RQ I I') : CSt I' J W H C w hs t T :=
  CSt.mk (h.st.mono (hq 2 (by omega) (by omega)) (hq 3 (by omega) (by omega))) (h.wd.mono (hq 5 (by omega) (by omega)) (hq 6 (by omega) (by omega)) (hq 7 (by omega) (by omega))) (h.hi.mono (fun a _ _ => hq a (by omega) (by omega))) (h.tx.mono (hq 57 (by omega) (by omega)) (hq 58 (by omega) (by omega))) (h.bn.mono (fun a _ _ => hq a (by omega) (by omega)) (fun _ _ _ => rfl))
/-- the row behind k places of the way from gate g -/
def TM (W H : Nat) (C : Cel) (I : HI) (g k : Nat) : Prop := ∀ c, c < 49 → I 59 c = Int32.ofNat (entN W H C c g + (if fstB W H C g then cntB (fun i => decide (pC W H C g i = c)) k else 0))
theorem TM.q {W H : Nat} {C : Cel} {I I' : HI} {J : HJ} {g k : Nat} (h : TM W H C I g k) (q : QF I J I' J) : TM W H C I' g k := fun c hc => by rw [q.1 59 (by omega)]; exact h c hc
theorem TM.nxt {W H : Nat} {C : Cel} {I : HI} {g : Nat} (h : TM W H C I g (bN W H C g)) : TM W H C I (g + 1) 0 := fun c hc => by
  rw [h c hc]
  congr 1
  show _ = entN W H C c g + (if fstB W H C g then cntB (fun i => decide (pC W H C g i = c)) (bN W H C g) else 0) + (if fstB W H C (g + 1) then 0 else 0)
  split <;> split <;> rfl
theorem TM.step {W H : Nat} {C : Cel} {I : HI} {g k p : Nat} (h : TM W H C I g k) (hp : pC W H C g k = p) (h49 : p < 49) : TM W H C (w2 I 59 p (I 59 p + b2 (fstB W H C g))) g (k + 1) := fun c hc => by
  rw [w2_at]
  by_cases e : c = p
  · subst e
    rw [if_pos ⟨rfl, rfl⟩, h c hc]
    show _ = Int32.ofNat (entN W H C c g + (if fstB W H C g then cntB (fun i => decide (pC W H C g i = c)) k + (if decide (pC W H C g k = c) then 1 else 0) else 0))
    rw [hp, decide_eq_true (rfl : c = c)]
    cases fstB W H C g with
    | true => exact oN_add _ 1
    | false => exact oN_add _ 0
  · rw [if_neg (fun z => e z.2), h c hc]
    congr 2
    show _ = (if fstB W H C g then cntB (fun i => decide (pC W H C g i = c)) k + (if decide (pC W H C g k = c) then 1 else 0) else 0)
    rw [hp, decide_eq_false (fun z => e z.symm)]
    rfl
