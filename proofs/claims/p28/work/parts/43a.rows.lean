/-! ===== the law's direct calls ===== -/
section LM
variable {d k nn Ln fz : Nat} {Q : Post} {pc : Nat} {L : Lc} {r : List Value} {u : Nat × Nat} {I : HI} {J : HJ} {W H : Nat} {C : Cel} {w : Wds} {hs : List Sav} {t : Nat} {T : Nat → Int32}
theorem lm_fewest (hn : 59 ≤ nn) (hc : CSt I J W H C w hs t T) (h : ∀ I' J', QF I J I' J' → EX (cal (d + 40)) k Q pc L (.int (fewV W H C) :: r) u (hp (fz + 2) nn (lay Ln) I' J')) :
    CA (cal (d + 40)) 98 [.ref 1] (hp (fz + 2) nn (lay Ln) I J) (fun w => KW (d + 40) k Q pc L r u w 98 (hp (fz + 2) nn (lay Ln) I J)) :=
  ⟨0, Or.inl rfl, sp_fewest (d := d + 6) hn hc fun I' J' q => kc_v rfl rfl (h I' J' q)⟩
theorem lm_repair (hn : 59 ≤ nn) (hc : CSt I J W H C w hs t T) (h : ∀ I' J', ClF I J I' J' → CSt I' J' W H C w hs t T → EX (cal (d + 40)) k Q pc L (.int (repS W H C (W * H)) :: r) u (hp (fz + 2) nn (lay Ln) I' J')) :
    CA (cal (d + 40)) 99 [.ref 1] (hp (fz + 2) nn (lay Ln) I J) (fun w => KW (d + 40) k Q pc L r u w 99 (hp (fz + 2) nn (lay Ln) I J)) :=
  ⟨0, Or.inl rfl, sp_repair (d := d + 4) hn hc fun I' J' q c => kc_v rfl rfl (h I' J' q c)⟩
theorem lm_told (hn : 59 ≤ nn) (hc : CSt I J W H C w hs t T) (h : ∀ I', QF I J I' J → EX (cal (d + 40)) k Q pc L (.double (toldV W H C w) :: r) u (hp (fz + 2) nn (lay Ln) I' J)) :
    CA (cal (d + 40)) 100 [.ref 1] (hp (fz + 2) nn (lay Ln) I J) (fun w => KW (d + 40) k Q pc L r u w 100 (hp (fz + 2) nn (lay Ln) I J)) :=
  ⟨0, Or.inl rfl, sp_told (d := d + 33) hn hc fun I' q => kc_v rfl rfl (h I' q)⟩
theorem lm_corners (hn : 59 ≤ nn) (hc : CSt I J W H C w hs t T) (h : ∀ I' J', ClF I J I' J' → CSt I' J' W H (fun c => tcB (C c)) w ((((W, H, C), w) :: hs).take 4) t T → EX (cal (d + 40)) k Q pc L (.int (Int32.ofNat (cntB (fun c => isCB (tcB (C c))) (W * H))) :: r) u (hp (fz + 2) nn (lay Ln) I' J')) :
    CA (cal (d + 40)) 83 [.ref 1] (hp (fz + 2) nn (lay Ln) I J) (fun w => KW (d + 40) k Q pc L r u w 83 (hp (fz + 2) nn (lay Ln) I J)) :=
  ⟨0, Or.inl rfl, sp_turnCorners (d := d + 33) hn hc fun I' J' q c => kc_v rfl rfl (h I' J' q c)⟩
theorem lm_stone (hn : 59 ≤ nn) (hc : CSt I J W H C w hs t T) (h : ∀ I' J', ClF I J I' J' → CSt I' J' H W (trC W H C) w ((((W, H, C), w) :: hs).take 4) t T → EX (cal (d + 40)) k Q pc L (.int (Int32.ofNat (2 * (W + H))) :: r) u (hp (fz + 2) nn (lay Ln) I' J')) :
    CA (cal (d + 40)) 84 [.ref 1] (hp (fz + 2) nn (lay Ln) I J) (fun w => KW (d + 40) k Q pc L r u w 84 (hp (fz + 2) nn (lay Ln) I J)) :=
  ⟨0, Or.inl rfl, sp_turnStone (d := d + 33) hn hc fun I' J' q c => kc_v rfl rfl (h I' J' q c)⟩
theorem lm_clear (hn : 59 ≤ nn) (hc : CSt I J W H C w hs t T) (h : ∀ I', ClF I J I' J → CSt I' J W H C w hs 0 T → EX (cal (d + 40)) k Q pc L (.int (Int32.ofNat t) :: r) u (hp (fz + 2) nn (lay Ln) I' J)) :
    CA (cal (d + 40)) 102 [.ref 1] (hp (fz + 2) nn (lay Ln) I J) (fun w => KW (d + 40) k Q pc L r u w 102 (hp (fz + 2) nn (lay Ln) I J)) :=
  ⟨0, Or.inl rfl, sp_clearText (d := d + 39) hn hc fun I' q c => kc_v rfl rfl (h I' q c)⟩
/-- a call that is given w units, whatever it used -/
theorem kw_va {v : Value} {fz m w m' : Nat} {nn : Nat} {ly : Nat → SH} {I I' : HI} {J J' : HJ} {y : Nat} (hb : bc y = 0) (hs : bs y = 0) (hm : fz ≤ m + w ∧ m ≤ fz ∧ 0 < m) (e : fz - w = m') (h : EX (cal d) k Q pc L (v :: r) u (hp m' nn ly I' J')) : KW d k Q pc L r u w y (hp fz nn ly I J) (.inl (some v)) (hp m nn ly I' J') :=
  kw_v hb hs ⟨hm.1, hm.2.1⟩ (fun q => absurd q (Nat.pos_iff_ne_zero.mp hm.2.2)) (by rw [e]; exact h)
theorem in_of {a n : Nat} (h : a < n) (hn : n < 2 ^ 31) : inN (Int32.ofNat a) n = true := by
  unfold inN
  rw [decide_eq_true (show (0 : Int32) ≤ Int32.ofNat a from (oN_le (a := 0) (by decide) (by omega)).mpr (Nat.zero_le _)), decide_eq_true ((oN_lt (by omega) hn).mpr h)]
  rfl
theorem in_no {a n : Nat} (h : n ≤ a) (ha : a < 2 ^ 31) : inN (Int32.ofNat a) n = false := by
  unfold inN
  rw [decide_eq_false (p := Int32.ofNat a < Int32.ofNat n) (fun q => by have := (oN_lt ha (by omega)).mp q; omega), Bool.and_false]
theorem wi_of {a x y : Nat} (h1 : x ≤ a) (h2 : a ≤ y) (hy : y < 2 ^ 31) : wi (Int32.ofNat a) (Int32.ofNat x) (Int32.ofNat y) = true := by
  unfold wi
  rw [decide_eq_true ((oN_le (by omega) (by omega)).mpr h1), decide_eq_true ((oN_le (by omega) hy).mpr h2)]
  rfl
theorem nn_of {a : Nat} (h : a < 2 ^ 31) : decide (0 ≤ Int32.ofNat a) = true := decide_eq_true ((oN_le (a := 0) (by decide) h).mpr (Nat.zero_le _))
theorem ip_of {g i : Nat} (hg : g < 2 * (W + H)) (hi : i < bN W H C g) (h28 : 2 * (W + H) ≤ 28) (hb : bN W H C g < 2 ^ 31) : inP W H C (Int32.ofNat g) (Int32.ofNat i) = true := by
  unfold inP
  rw [in_of hg (by omega), oN_clamp (by omega), in_of hi hb]
  rfl
end LM
