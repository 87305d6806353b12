/-! ===== new cells: the rules; the heap while it is built ===== -/
def upS (ly : Nat → SH) (a : Nat) (s : SH) : Nat → SH := fun b => bif Nat.beq b a then s else ly b
theorem upS_at {ly : Nat → SH} {a : Nat} {s : SH} : upS ly a s a = s := by
  unfold upS; rw [Nat.beq_refl]; rfl
theorem upS_ne {ly : Nat → SH} {a b : Nat} {s : SH} (h : b ≠ a) : upS ly a s b = ly b := by
  unfold upS; rw [nbeq h]; rfl
theorem upS_id {ly : Nat → SH} {a : Nat} {s : SH} (h : ly a = s) : upS ly a s = ly := by
  funext b
  by_cases e : b = a
  · subst e; rw [upS_at, h]
  · rw [upS_ne e]
theorem upS_up {ly : Nat → SH} {a : Nat} {s s' : SH} : upS (upS ly a s) a s' = upS ly a s' := by
  funext b
  by_cases e : b = a
  · subst e; rw [upS_at, upS_at]
  · rw [upS_ne e, upS_ne e, upS_ne e]
theorem upS_cm {ly : Nat → SH} {a b : Nat} {s s' : SH} (h : a ≠ b) : upS (upS ly a s) b s' = upS (upS ly b s') a s := by
  funext c
  by_cases e : c = a
  · subst e; rw [upS_ne h, upS_at, upS_at]
  · by_cases e2 : c = b
    · subst e2; rw [upS_at, upS_ne e, upS_at]
    · rw [upS_ne e2, upS_ne e, upS_ne e, upS_ne e2]
theorem hp_nw {fz : Nat} {n : Nat} {ly ly' : Nat → SH} {I : HI} {J : HJ} {x : AE} (hx : cellOf (ly' n) (I n) (J n) = x) (hl : ∀ b, b < n → ly' b = ly b) : nw (hp fz n ly I J) x = hp fz (n + 1) ly' I J := by
  subst hx
  unfold nw hp
  rw [List.range_succ, List.map_append]
  congr 2
  apply List.map_congr_left
  intro b hb
  rw [hl b (List.mem_range.mp hb)]
theorem hp_setL {fz : Nat} {n : Nat} {ly ly' : Nat → SH} {I : HI} {J : HJ} {a : Nat} {x : AE} (hx : cellOf (ly' a) (I a) (J a) = x) (hl : ∀ b, b ≠ a → ly' b = ly b) : wr (hp fz n ly I J) a x = hp fz n ly' I J := by
  subst hx
  unfold wr hp
  congr 1
  apply List.ext_getElem?
  intro i
  rw [List.getElem?_set]
  simp only [List.getElem?_map, List.length_map, List.length_range]
  by_cases h : a = i
  · subst h
    rw [if_pos rfl]
    by_cases h2 : a < n
    · rw [if_pos h2, List.getElem?_range h2]; rfl
    · rw [if_neg h2, List.getElem?_eq_none (by simp; omega)]; rfl
  · rw [if_neg h]
    by_cases h2 : i < n
    · rw [List.getElem?_range h2, Option.map_some, Option.map_some, hl i (fun e => h e.symm)]
    · rw [List.getElem?_eq_none (by simp; omega)]; rfl
theorem fvals_setR {cs cs' : List Nat} {i : Nat → Int32} {j : Nat → Int64} {f q : Nat} (h : cs.set f (q + 3) = cs') : fvals cs' i j = (fvals cs i j).set f (.ref q) := by
  subst h
  apply List.ext_getElem?
  intro b
  rw [List.getElem?_set]
  simp only [fvals, List.getElem?_mapIdx, List.length_mapIdx, List.getElem?_set]
  by_cases hb : f = b
  · subst hb
    rw [if_pos rfl, if_pos rfl]
    by_cases h2 : f < cs.length
    · rw [if_pos h2, if_pos h2]; rfl
    · rw [if_neg h2, if_neg h2]; rfl
  · rw [if_neg hb, if_neg hb]
/-- all cells that aren't there yet -/
def Zr (n : Nat) (I : HI) (J : HJ) : Prop := ∀ b, n ≤ b → I b = (fun _ => 0) ∧ J b = (fun _ => 0)
theorem Zr.mono {n m : Nat} {I I' : HI} {J : HJ} (h : Zr n I J) (hm : n ≤ m) (hI : ∀ b, m ≤ b → I' b = I b) : Zr m I' J := fun b hb => ⟨(hI b hb).trans (h b (Nat.le_trans hm hb)).1, (h b (Nat.le_trans hm hb)).2⟩
section NEW
variable {d k : Nat} {Q : Post} {pc n a b c : Nat} {L : Lc} {st r : List Value} {u1 u2 p1 p2 : Nat} {fz : Nat} {nn mm : Nat} {ly ly' : Nat → SH} {I : HI} {J : HJ} {o z : Nat} {cs cs' : List Nat}
theorem e_new {x : Nat} (hc : CDx k pc (.new x) n a b c L) (hcc : c ≠ 1) (hf : fs0 a = fvals cs (fun _ => 0) (fun _ => 0)) (h1 : u1 + 1 = p1) (h2 : u2 + nf a = p2) (b1 : p1 ≤ bc k) (b2 : p2 ≤ bs k) (hm : nn + 1 = mm) (hZ : Zr nn I J) (h : EX (cal d) k Q (pc + n) L (.ref nn :: st) (p1, p2) (hp 0 mm (upS ly nn (a + 10, 0, cs)) I J)) : EX (cal d) k Q pc L st (u1, u2) (hp 0 nn ly I J) := e_ hc (by
  subst h1
  subst h2
  subst hm
  unfold st1
  dsimp only
  rw [if_neg hcc]
  refine ⟨rfl, b1, b2, ?_⟩
  rw [hp_len, hp_nw (ly' := upS ly nn (a + 10, 0, cs)) (by rw [upS_at, (hZ nn (Nat.le_refl _)).1, (hZ nn (Nat.le_refl _)).2, cell_obj, hf]) (fun b hb => upS_ne (by omega))]
  exact h)
theorem e_narr {t : ArrayType} {v : Int32} {kd : Nat} (hc : CDx k pc (.newarray t) n a b c L) (hs : ly nn = (kd, z, cs)) (hat : cellOf (kd, z, cs) (fun _ => 0) (fun _ => 0) = atNew t z) (ht : atTag t < 9) (hz : v.toNatClampNeg = z) (hv : 0 ≤ v) (hle : z ≤ 100000) (h1 : u1 + 1 = p1) (h2 : u2 + z = p2) (b1 : p1 ≤ bc k) (b2 : p2 ≤ bs k) (hm : nn + 1 = mm) (hZ : Zr nn I J) (h : EX (cal d) k Q (pc + n) L (.ref nn :: r) (p1, p2) (hp 0 mm ly I J)) : EX (cal d) k Q pc L (.int v :: r) (u1, u2) (hp 0 nn ly I J) := e_ hc (by
  subst h1
  subst h2
  subst hm
  subst hz
  refine ⟨hv, hle, ht, ?_⟩
  rw [if_pos (show (hp 0 nn ly I J).1 = 0 from rfl)]
  refine ⟨b1, b2, ?_⟩
  rw [hp_len, hp_nw (ly' := ly) (by rw [hs, (hZ nn (Nat.le_refl _)).1, (hZ nn (Nat.le_refl _)).2]; exact hat) (fun b hb => rfl)]
  exact h)
theorem e_anew {x : Nat} {v : Int32} (hc : CDx k pc (.anewarray x) n a b c L) (ha : a = 3 ∨ a = 4) (hcs : ∀ q : Nat, codeR (cs[q]?) = none) (hz : v.toNatClampNeg = z) (hv : 0 ≤ v) (hle : z ≤ 100000) (h1 : u1 + 1 = p1) (h2 : u2 + z = p2) (b1 : p1 ≤ bc k) (b2 : p2 ≤ bs k) (hm : nn + 1 = mm) (h : EX (cal d) k Q (pc + n) L (.ref nn :: r) (p1, p2) (hp 0 mm (upS ly nn (a, z, cs)) I J)) : EX (cal d) k Q pc L (.int v :: r) (u1, u2) (hp 0 nn ly I J) := e_ hc (by
  subst h1
  subst h2
  subst hm
  subst hz
  refine ⟨rfl, hv, hle, b1, b2, ?_⟩
  have e : (fun q : Nat => codeR (cs[q]?)) = fun _ => none := funext hcs
  rw [hp_len, hp_nw (ly' := upS ly nn (a, v.toNatClampNeg, cs)) (by rw [upS_at]; rcases ha with rfl | rfl <;> (show Sum.inl (_, _, Sum.inr (Sum.inr (Sum.inr (Sum.inr _)))) = _; rw [e])) (fun b hb => upS_ne (by omega))]
  exact h)
theorem e_pfR {x q : Nat} (hc : CDx k pc (.putfield x) n a b c L) (ho : o < nn) (hs : ly o = (a + 10, z, cs)) (hcs : cs.set b (q + 3) = cs') (hb : b < cs.length) (hn : narrow (fty a b) (.ref q) = .ref q) (hf : fits (fty a b) (.ref q) = true) (hs' : ly' o = (a + 10, z, cs')) (hl : ∀ b, b ≠ o → ly' b = ly b) (h : EX (cal d) k Q (pc + n) L r (u1, u2) (hp fz nn ly' I J)) : EX (cal d) k Q pc L (.ref q :: .ref o :: r) (u1, u2) (hp fz nn ly I J) := by
  refine e_ hc ?_
  show hO _ _ _
  unfold hO
  rw [hp_get ho, hs, cell_obj]
  refine ⟨rfl, ?_, hn, hf, ?_⟩
  · simp [fvals]; exact hb
  rw [hp_setL (ly' := ly') (by rw [hs', cell_obj, fvals_setR hcs]) hl]
  exact h
theorem e_aast {i : Int32} {x t ci z' : Nat} {cx' : List Nat} (hc : CDx k pc .aastore n a b c L) (ho : o < nn) (hs : ly o = (t, z, cs)) (hx : x < nn) (hsx : ly x = (ci + 10, z', cx')) (ht : (t = 3 ∧ ci = 5) ∨ (t = 4 ∧ ci = 7)) (hin : vp_in i z) (hcs : cs.set i.toNatClampNeg (x + 3) = cs') (hb : i.toNatClampNeg < cs.length) (hs' : ly' o = (t, z, cs')) (hl : ∀ b, b ≠ o → ly' b = ly b) (h : EX (cal d) k Q (pc + n) L r (u1, u2) (hp fz nn ly' I J)) : EX (cal d) k Q pc L (.ref x :: .int i :: .ref o :: r) (u1, u2) (hp fz nn ly I J) := by
  have e : (fun q : Nat => codeR (cs'[q]?)) = va_up (fun q : Nat => codeR (cs[q]?)) i.toNatClampNeg (some x) := by
    subst hcs
    funext q
    unfold va_up
    rw [List.getElem?_set]
    by_cases hq : q = i.toNatClampNeg
    · rw [if_pos hq, if_pos hq.symm, if_pos hb]; rfl
    · rw [if_neg hq, if_neg (fun e => hq e.symm)]
  refine e_ hc ?_
  show hQ _ _ _
  unfold hQ
  rw [hp_get ho, hs]
  have h2 : wr (hp fz nn ly I J) o (.inl (t, z, .inr (.inr (.inr (.inr (va_up (fun q : Nat => codeR (cs[q]?)) i.toNatClampNeg (some x))))))) = hp fz nn ly' I J := by
    refine hp_setL (ly' := ly') ?_ hl
    rw [hs', ← e]
    rcases ht with ⟨rfl, -⟩ | ⟨rfl, -⟩ <;> rfl
  rcases ht with ⟨rfl, rfl⟩ | ⟨rfl, rfl⟩
  · show hO _ _ _
    unfold hO
    rw [hp_get hx, hsx, cell_obj]
    exact ⟨Or.inl ⟨rfl, rfl⟩, hin, h2 ▸ h⟩
  · show hO _ _ _
    unfold hO
    rw [hp_get hx, hsx, cell_obj]
    exact ⟨Or.inr ⟨rfl, rfl⟩, hin, h2 ▸ h⟩
theorem kc_n {y : Nat} {I' : HI} {J' : HJ} (hm : nn + bc y = mm) (h1 : u1 + bc y = p1) (h2 : u2 + bs y = p2) (h : EX (cal d) k Q pc L r (p1, p2) (hp 0 mm ly' I' J')) : KC d k Q pc L r (u1, u2) y (hp 0 nn ly I J) (.inl none) (hp 0 mm ly' I' J') := by
  subst h1
  subst h2
  exact ⟨⟨Nat.le_refl _, Nat.le_refl _⟩, fun _ => ⟨rfl, by rw [hp_len, hp_len, hm]⟩, h⟩
end NEW
/-! a filled row over any layout -/
section FIL
variable {d nn z o : Nat} {fz : Nat} {Q K : Post} {ly : Nat → SH} {I : HI} {J : HJ} {cs : List Nat}
theorem g_201_0 {v : Int32} (ho : o < nn) (hs : ly o = (0, z, cs)) (h : EX (cal d) 201 Q 5 [some (.ref o), some (.int v), some (.int 0), some (.int (Int32.ofNat z))] [] (0, 0) (hp fz nn ly I J)) :
    EX (cal d) 201 Q 0 [some (.ref o), some (.int v), none, none] [] (0, 0) (hp fz nn ly I J) :=
  (e_iconst (cx cd_201_0 rfl rfl) ic_0 (e_stIn (L' := [some (.ref o), some (.int v), some (.int 0), none]) (cx cd_201_1 rfl rfl) (Nat.le_of_ble_eq_true rfl) rfl (e_ldRn (cx cd_201_2 rfl rfl) rfl (e_alen0 (z := z) (cx cd_201_3 rfl rfl) ho hs (e_stIn (L' := [some (.ref o), some (.int v), some (.int 0), some (.int (Int32.ofNat z))]) (cx cd_201_4 rfl rfl) (Nat.le_of_ble_eq_true rfl) rfl h)))))
theorem g_201_5 {x1 : Int32} {x2 : Int32} {x3 : Int32} (ho : o < nn) (hs : ly o = (0, z, cs)) (h : if x3 ≤ x2 then (Q (.inl none) (hp fz nn ly I J)) else (vp_in x2 z ∧ (EX (cal d) 201 Q 5 [some (.ref o), some (.int x1), some (.int (x2 + 1)), some (.int x3)] [] (0, 0) (hp fz nn ly (w2 I o x2.toNatClampNeg x1) J)))) :
    EX (cal d) 201 Q 5 [some (.ref o), some (.int x1), some (.int x2), some (.int x3)] [] (0, 0) (hp fz nn ly I J) :=
  (e_ldIn (cx cd_201_5 rfl rfl) rfl (e_ldIn (cx cd_201_6 rfl rfl) rfl (e_ic (t := 20) (cx cd_201_7 rfl rfl) rfl (if_c (fun ch1 => have h1 := if_t h ch1; (e_vret (cx cd_201_20 rfl rfl) rfl h1)) (fun ch1 => have h2 := if_f h ch1; (e_ldRn (cx cd_201_10 rfl rfl) rfl (e_ldIn (cx cd_201_11 rfl rfl) rfl (e_ldIn (cx cd_201_12 rfl rfl) rfl (e_iast (cx cd_201_13 rfl rfl) ho hs h2.1 (e_iinc (L' := [some (.ref o), some (.int x1), some (.int (x2 + 1)), some (.int x3)]) (cx cd_201_14 rfl rfl) ic_1 rfl (Nat.le_of_ble_eq_true rfl) rfl (e_goto (t := 5) (cx cd_201_17 rfl rfl) rfl h2.2)))))))))))
theorem lg_fill {v : Int32} (ho : o < nn) (hs : ly o = (0, z, cs)) (hz : z < 2 ^ 31) (h : K (.inl none) (hp fz nn ly (flI I o z v) J)) (m : Nat) : ∀ q : Nat, q + m = z →
    EX (cal d) 201 K 5 [some (.ref o), some (.int v), some (.int (Int32.ofNat q)), some (.int (Int32.ofNat z))] [] (0, 0) (hp fz nn ly (flI I o q v) J) := by
  induction m with
  | zero =>
    intro q hq
    obtain rfl : q = z := hq
    exact g_201_5 ho hs (if_y (Int32.le_refl _) h)
  | succ m ih =>
    intro q hq
    refine g_201_5 ho hs (if_n (by rw [oN_le hz (by omega)]; omega) ⟨oN_vin (by omega) hz, ?_⟩)
    rw [oN_succ, oN_clamp (by omega), flI_succ]
    exact ih (q + 1) (by omega)
theorem g_fill {v : Int32} (ho : o < nn) (hs : ly o = (0, z, cs)) (hz : z < 2 ^ 31) (h : K (.inl none) (hp fz nn ly (flI I o z v) J)) : cal (d + 1) 201 [.ref o, .int v] (hp fz nn ly I J) K := by
  refine call_in (Nat.le_of_ble_eq_true rfl) rfl rfl (g_201_0 ho hs ?_)
  have := lg_fill (d := d) ho hs hz h z 0 (by omega)
  rw [flI_zero] at this
  exact this
/-- a stone as it begins -/
def stI (I : HI) (a : Nat) : HI := flI (w2 (w2 I a 0 4) a 1 4) (a + 1) 49 46
theorem stI_ne {a b : Nat} (h : b ≠ a) (h2 : b ≠ a + 1) : stI I a b = I b := by
  funext q
  unfold stI
  rw [flI_at, if_neg (fun e => h2 e.1), w2_at, if_neg (fun e => h e.1), w2_at, if_neg (fun e => h e.1)]
theorem stI_w {a : Nat} : stI I a a 0 = 4 := by
  unfold stI
  rw [flI_at, if_neg (by omega), w2_at, if_neg (by omega), w2_at, if_pos ⟨rfl, rfl⟩]
theorem stI_h {a : Nat} : stI I a a 1 = 4 := by
  unfold stI
  rw [flI_at, if_neg (by omega), w2_at, if_pos ⟨rfl, rfl⟩]
theorem stI_c {a q : Nat} (hq : q < 49) : stI I a (a + 1) q = 46 := by
  unfold stI
  rw [flI_at, if_pos ⟨rfl, hq⟩]
theorem Zr.st {n a : Nat} (h : Zr n I J) (ha : a + 2 ≤ n) : Zr n (stI I a) J := h.mono (Nat.le_refl _) (fun b hb => stI_ne (by omega) (by omega))
theorem g_clear {a : Nat} (ha : a + 1 < nn) {e1 : Nat} (hs : ly a = (15, 0, [0, 0, a + 1 + 3, e1])) (hs2 : ly (a + 1) = (0, 49, cs)) (h : K (.inl none) (hp fz nn ly (stI I a) J)) : cal (d + 2) 47 [.ref a, .int 4, .int 4] (hp fz nn ly I J) K :=
  call_in (Nat.le_of_ble_eq_true rfl) rfl rfl (e_ldRn (cx cd_47_0 rfl rfl) rfl (e_ldIn (cx cd_47_1 rfl rfl) rfl (e_pfI (cx cd_47_2 rfl rfl) (Nat.lt_of_succ_lt ha) hs rfl rfl (e_ldRn (cx cd_47_5 rfl rfl) rfl (e_ldIn (cx cd_47_6 rfl rfl) rfl (e_pfI (cx cd_47_7 rfl rfl) (Nat.lt_of_succ_lt ha) hs rfl rfl (e_ldRn (cx cd_47_10 rfl rfl) rfl (e_gfR (q := a + 1) (cx cd_47_11 rfl rfl) (Nat.lt_of_succ_lt ha) hs rfl (e_bipush (cx cd_47_14 rfl rfl) bp_46 (e_call (vs := [.ref (a + 1), .int 46]) (cx cd_47_16 rfl rfl) inv_s (by decide) rfl rfl (Nat.le_of_ble_eq_true rfl) (Nat.le_of_ble_eq_true rfl) (Nat.le_of_ble_eq_true rfl) (rc_s (by decide)) (g_fill ha hs2 (Nat.le_of_ble_eq_true rfl) (kc_0 rfl rfl (e_vret (cx cd_47_19 rfl rfl) rfl h)))))))))))))
end FIL
