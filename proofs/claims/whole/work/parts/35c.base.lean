/-! ===== the law's cases: what they stand on ===== -/
def QL : Post := fun o _ => o = .inl (some (.int 1))
/-- both states are the same -/
def LwS (I : HI) (J : HJ) : Prop := ∃ W H C w hs t T, CSt I J W H C w hs t T ∧ RfS I W H C w hs t T
def HD (Ln i : Nat) (u : Nat × Nat) (I : HI) (J : HJ) : Prop := EX (cal 38) 219 QL 23 [some (.ref 0), some (.ref 1), some (.ref 59), some (.ref 74), some (.int (Int32.ofNat i)), none, none, none, none] [] u (hp true 75 (lay Ln) I J)
section LWB
variable {d nn Ln : Nat} {fz : Bool} {Q : Post} {I I' : HI} {J J' : HJ} {W H : Nat} {C : Cel} {w : Wds} {hs : List Sav} {t : Nat} {T : Nat → Int32} {u : Nat × Nat} {ly : Nat → SH}
theorem law_kill {x : Int32} {a5 a6 a7 a8 : Option Value} {g : Gp} (h : EX (cal d) 219 Q 23 [some (.ref 0), some (.ref 1), some (.ref 59), some (.ref 74), some (.int x), none, none, none, none] [] u g) : EX (cal d) 219 Q 23 [some (.ref 0), some (.ref 1), some (.ref 59), some (.ref 74), some (.int x), a5, a6, a7, a8] [] u g := by
  have h := (EX_unf (cal_mono d)).mp h
  refine EX_in (cal_mono d) ?_
  unfold stp at h ⊢
  rw [cd_219_23] at h ⊢
  exact h
theorem law_hd {x : Int32} {a5 a6 a7 a8 : Option Value} (h : EX (cal d) 219 Q 25 [some (.ref 0), some (.ref 1), some (.ref 59), some (.ref 74), some (.int x), none, none, none, none] [.int x] u (hp true nn ly I J)) : EX (cal d) 219 Q 23 [some (.ref 0), some (.ref 1), some (.ref 59), some (.ref 74), some (.int x), a5, a6, a7, a8] [] u (hp fz nn ly I J) := by
  refine EX_in (cal_mono d) ?_
  unfold stp
  rw [cd_219_23]
  exact h
theorem kc_x {k pc y e : Nat} {x : Int32} {L : Lc} {r : List Value} {g : Gp} (h : hnd k e = some x) (hq : Q (.inl (some (.int x))) (hp true nn ly I' J')) : KC d k Q pc L r u y g (.inr e) (hp true nn ly I' J') := by
  refine ⟨fun z => ?_, ?_⟩
  · have : true = false := z
    cases this
  · dsimp only
    rw [h]
    exact hq
theorem kc_t {k pc y : Nat} {v : Value} {L : Lc} {r : List Value} {g : Gp} (h : EX (cal d) k Q pc L (v :: r) (u.1 + bc y, u.2 + bs y) (hp true nn ly I' J')) : KC d k Q pc L r u y g (.inl (some v)) (hp true nn ly I' J') := by
  refine ⟨fun z => ?_, h⟩
  have : true = false := z
  cases this
theorem ub3 {a : Nat} (h : u.1 + 2 ≤ 601024) (hb : bc a ≤ 1) : (u.1 + bc a, u.2 + bs a).1 + 1 ≤ 601024 := by
  show u.1 + bc a + 1 ≤ 601024
  omega
theorem ub4 {a : Nat} (h : u.2 + 12 ≤ 7293034) (hb : bs a ≤ 6) : (u.1 + bc a, u.2 + bs a).2 + 6 ≤ 7293034 := by
  show u.2 + bs a + 6 ≤ 7293034
  omega
theorem RfS.cl (h : RfS I W H C w hs t T) (hf : ClF I J I' J') : RfS I' W H C w hs t T := by
  have e59 := hf.1 59 (by omega)
  have e60 := hf.1 60 (by omega)
  have e61 := hf.1 61 (by omega)
  have e63 := hf.1 63 (by omega)
  exact RfS.mk (by rw [e60]; exact h.row) (by rw [e59]; exact h.sv) h.s4 (by rw [e61]; exact h.ps) (by rw [e59]; exact h.tn) h.t60 (by rw [e63]; exact h.ta)
theorem CSt.rf (h : CSt I J W H C w hs t T) (hf : RF I J I' J') : CSt I' J' W H C w hs t T :=
  CSt.mk (h.st.mono (hf.1 2 (by decide)) (hf.1 3 (by decide))) (h.wd.mono (hf.1 5 (by decide)) (hf.1 6 (by decide)) (hf.1 7 (by decide))) (h.hi.mono (fun a _ _ => hf.1 a (by omega))) (h.tx.mono (hf.1 57 (by decide)) (hf.1 58 (by decide))) (h.bn.mono (fun a _ _ => hf.1 a (by omega)) (fun a _ _ => hf.2 a (by omega)))
theorem CSt.out {v : Int64} (h : CSt I J W H C w hs t T) : CSt I (x2 J 74 0 v) W H C w hs t T :=
  CSt.mk h.st h.wd h.hi h.tx (h.bn.mono (fun _ _ _ => rfl) (fun a _ _ => x2_other _ _ _ (by omega)))
theorem ix1 {i : Nat} (hi : i + 3 ≤ Ln) (hL : Ln ≤ 1536) : vp_in (Int32.ofNat i + 1) Ln ∧ (Int32.ofNat i + 1).toNatClampNeg = i + 1 := by
  rw [oN_succ, oN_clamp (by omega)]
  exact ⟨oN_vin (by omega) (by omega), rfl⟩
theorem ix2 {i : Nat} (hi : i + 3 ≤ Ln) (hL : Ln ≤ 1536) : vp_in (Int32.ofNat i + 2) Ln ∧ (Int32.ofNat i + 2).toNatClampNeg = i + 2 := by
  have e : Int32.ofNat i + 2 = Int32.ofNat (i + 2) := oN_add i 2
  rw [e, oN_clamp (by omega)]
  exact ⟨oN_vin (by omega) (by omega), rfl⟩
theorem ix3 (i : Nat) : Int32.ofNat i + 3 = Int32.ofNat (i + 3) := oN_add i 3
theorem v01 : vp_in (0 : Int32) 1 := by unfold vp_in; decide
theorem fbt {b : Bool} {X : Prop} (h : b = false) (h2 : b = true) : X := by rw [h] at h2; cases h2
theorem tbf {b : Bool} {X : Prop} (h : b = true) (h2 : b = false) : X := by rw [h] at h2; cases h2
end LWB
