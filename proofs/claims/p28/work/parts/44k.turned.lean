/-! ===== isTurned (by program, wip/p28/mk48.py) ===== -/
section TUR
variable {d k Ln fz : Nat} {Q : Post} {pc : Nat} {L : Lc} {r : List Value} {u : Nat × Nat} {I : HI} {J : HJ} {W H : Nat} {C : Cel} {w : Wds} {hs : List Sav} {t : Nat} {T : Nat → Int32}
theorem CEq_4 (hW : 0 < W) (hH : 0 < H) : CEq W H C (trC H W (trC W H (trC H W (trC W H C)))) := fun c hc => (trC_4 hW hH hc).symm
theorem tu_313 (hc : CSt I J W H C w hs t T) (hs0 : hs = []) (h : ∀ I' J', ClF I J I' J' → CSt I' J' W H C w [] t T → Q (.inl (some (.int 1))) (hp (fz + 1) 59 (lay Ln) I' J')) :
    EX (cal (d + 44)) 156 Q 276 [some (.ref 1), some (.long (prV W H C w)), none, none, none, none, none, none, none, none, none, some (.int 1), none] [] (0, 0) (hp (fz + 339) 59 (lay Ln) I J) := by
  have hn : 59 ≤ 59 := Nat.le_refl _
  subst hs0
  refine q_156_276 hn (if_n (by decide) ?_)
  have e1 : fz + 339 = fz + 169 + 170 := by omega
  rw [e1]
  refine lm_print (d := d + 3) hn hc fun I1 q1 => ?_
  have c1 := hc.q q1
  have e2 : fz + 169 + 1 = fz + 168 + 2 := by omega
  rw [e2]
  refine q_156_285 hn (if_y (lg_self _) (lm_corners (d := d + 4) hn c1 fun I2 J2 f2 c2 => ?_))
  refine q_156_294 hn (lk_value (d := d + 4) hn c2 (by decide) ?_)
  rw [nF_4]
  refine q_156_299 hn (if_y rfl (lk_undo (d := d + 4) (v := ((W, H, C), w)) (hs := []) hn c2 fun I3 J3 f3 c3 => ?_))
  refine q_156_306 hn (if_n (by decide) ?_)
  rw [show fz + 168 + 2 = fz + 170 by omega]
  refine q_156_314 hn (if_n (by decide) (lm_print (d := d + 3) hn c3 fun I4 q4 => q_156_325 hn (if_y (lg_self _) ?_)))
  exact q_156_335 hn ⟨Or.inr rfl, h I4 J3 (((q1.cl.tr f2).tr f3).tr q4.cl) (c3.q q4)⟩
theorem tu_245 {W' H' : Nat} {C' : Cel} {v1 v2 v3 : Sav} (hc : CSt I J W' H' C' w [v3, v2, v1, ((W, H, C), w)] t T) (h : ∀ I' J', ClF I J I' J' → CSt I' J' W H C w [] t T → Q (.inl (some (.int 1))) (hp (fz + 1) 59 (lay Ln) I' J')) :
    EX (cal (d + 44)) 156 Q 240 [some (.ref 1), some (.long (prV W H C w)), none, none, none, none, none, none, none, none, none, none, none] [.int 1] (0, 0) (hp (fz + 339) 59 (lay Ln) I J) := by
  have hn : 59 ≤ 59 := Nat.le_refl _
  have e1 : fz + 339 = fz + 337 + 2 := by omega
  rw [e1]
  refine q_156_240 hn (q_156_245 hn (if_n (by decide) (if_n (by decide) (lk_undo (d := d + 4) hn hc fun I1 J1 f1 c1 => q_156_260 hn (if_n (oN_nneg (show 3 < 2 ^ 31 by decide)) (q_156_268 hn ?_))))))
  refine q_156_245 hn (if_n (by decide) (if_n (by decide) (lk_undo (d := d + 4) hn c1 fun I2 J2 f2 c2 => q_156_260 hn (if_n (oN_nneg (show 2 < 2 ^ 31 by decide)) (q_156_268 hn ?_)))))
  refine q_156_245 hn (if_n (by decide) (if_n (by decide) (lk_undo (d := d + 4) hn c2 fun I3 J3 f3 c3 => q_156_260 hn (if_n (oN_nneg (show 1 < 2 ^ 31 by decide)) (q_156_268 hn ?_)))))
  refine q_156_245 hn (if_n (by decide) (if_n (by decide) (lk_undo (d := d + 4) (v := ((W, H, C), w)) hn c3 fun I4 J4 f4 c4 => q_156_260 hn (if_n (by decide) (q_156_268 hn ?_)))))
  refine q_156_245 hn (if_y (by decide) ?_)
  exact tu_313 (d := d) c4 rfl fun I5 J5 f5 c5 => h I5 J5 ((((f1.tr f2).tr f3).tr f4).tr f5) c5
theorem tu_turn {x12 y : Int32} (h3 : ¬ 3 ≤ x12) (hx : x12 + 1 = y) (hc : CSt I J W H C w hs t T) {s1 s2 : Int32} {x1 : Int64} (hsm : 2 * (s1 + s2) = Int32.ofNat (2 * (W + H))) (h : ∀ I' J', ClF I J I' J' → CSt I' J' H W (trC W H C) w ((((W, H, C), w) :: hs).take 4) t T → EX (cal (d + 44)) 156 Q 184 [some (.ref 1), some (.long x1), none, some (.int s1), some (.int s2), none, none, none, none, none, none, some (.int 1), some (.int y)] [] (0, 0) (hp (fz + 2) 59 (lay Ln) I' J')) :
    EX (cal (d + 44)) 156 Q 184 [some (.ref 1), some (.long x1), none, some (.int s1), some (.int s2), none, none, none, none, none, none, some (.int 1), some (.int x12)] [] (0, 0) (hp (fz + 2) 59 (lay Ln) I J) := by
  have hn : 59 ≤ 59 := Nat.le_refl _
  refine q_156_184 hn (if_n h3 (if_n (by decide) (lm_stone (d := d + 4) hn hc fun I1 J1 f1 c1 => q_156_199 hn (if_y hsm.symm (q_156_213 hn ?_)))))
  rw [hx]
  exact h I1 J1 f1 c1
theorem tu_all (hc : CSt I J W H C w hs t T) (hgw : GoodW w) (h : ∀ I' J', ClF I J I' J' → CSt I' J' W H C w [] t T → Q (.inl (some (.int 1))) (hp (fz + 1) 59 (lay Ln) I' J')) :
    EX (cal (d + 44)) 156 Q 0 [some (.ref 1), none, none, none, none, none, none, none, none, none, none, none, none] [] (0, 0) (hp (fz + 716) 59 (lay Ln) I J) := by
  have hn : 59 ≤ 59 := Nat.le_refl _
  have hd := hc.dim
  have h49 := hc.w49
  have hW : 0 < W := by omega
  have hH : 0 < H := by omega
  have hb : 2 * (W + H) ≤ 28 := by omega
  have e1 : fz + 716 = fz + 546 + 170 := by omega
  rw [e1]
  refine q_156_0 hn (lm_print (d := d + 3) hn hc fun I1 q1 => ?_)
  have c1 := hc.q q1
  have e2 : fz + 546 + 1 = fz + 545 + 2 := by omega
  rw [e2]
  refine q_156_4 hn (lk_value (d := d + 4) hn c1 (by decide) ?_)
  rw [nF_0]
  refine q_156_10 hn (lk_value (d := d + 4) hn c1 (by decide) ?_)
  rw [nF_1]
  refine q_156_16 hn (lk_value (d := d + 4) hn c1 (by decide) ?_)
  rw [nF_2]
  refine q_156_23 hn (lk_value (d := d + 4) hn c1 (by decide) ?_)
  rw [nF_7]
  refine q_156_31 hn (lk_value (d := d + 4) hn c1 (by decide) ?_)
  rw [nF_8]
  have hp0 : 0 < W * H := Nat.mul_pos hW hH
  refine q_156_39 hn (lk_cell (d := d + 4) hn c1 (in_0 hp0 (by omega)) (by decide) ?_)
  rw [cF_0, show (0 : Int32).toNatClampNeg = 0 by decide]
  refine q_156_47 hn (lm_told (d := d + 4) hn c1 fun I2 q2 => ?_)
  have c2 := c1.q q2
  refine q_156_53 hn (lm_stone (d := d + 4) hn c2 fun I3 J3 f3 c3 => ?_)
  have esm : 2 * (Int32.ofNat W + Int32.ofNat H) = Int32.ofNat (2 * (W + H)) := by rw [oN_add]; exact oN_mul 2 (W + H)
  refine q_156_59 hn (if_y esm.symm (lk_value (d := d + 4) hn c3 (by decide) ?_))
  rw [nF_0]
  refine q_156_73 hn (if_y rfl (lk_value (d := d + 4) hn c3 (by decide) ?_))
  rw [nF_1]
  refine q_156_83 hn (if_y rfl (lk_value (d := d + 4) hn c3 (by decide) ?_))
  rw [nF_2, runes_rt hW]
  refine q_156_92 hn (if_y rfl (lk_value (d := d + 4) hn c3 (by decide) ?_))
  rw [nF_7, nFst_rt hW hH hb]
  refine q_156_103 hn (if_y rfl (lk_value (d := d + 4) hn c3 (by decide) ?_))
  rw [nF_8, nCrs_rt hW hH hb]
  refine q_156_114 hn (if_y rfl ?_)
  rw [show Int32.ofNat H - 1 = Int32.ofNat (H - 1) from oN_sub (a := H) (b := 1) (by omega)]
  have hh1 : H - 1 < H * W := by
    have : H * 1 ≤ H * W := Nat.mul_le_mul_left H hW
    omega
  have hhw : H * W ≤ 49 := by rw [Nat.mul_comm]; exact h49
  refine lk_cell (d := d + 4) hn c3 (in_of hh1 (by omega)) (by decide) ?_
  rw [cF_0, oN_clamp (by omega), trC_0 hH]
  have f13 := (q1.cl.tr q2.cl).tr f3
  have at154 : ∀ y : Int32, y = tcB (C 0) → EX (cal (d + 44)) 156 Q 154 [some (.ref 1), some (.long (prV W H C w)), none, some (.int (Int32.ofNat W)), some (.int (Int32.ofNat H)), none, none, none, none, some (.double (toldV W H C w)), none, none, none] [.int y, .int (tcB (C 0))] (0, 0) (hp (fz + 545 + 2) 59 (lay Ln) I3 J3) := by
    intro y hy
    refine q_156_154 hn (if_y hy.symm (lm_told (d := d + 4) hn c3 fun I4 q4 => ?_))
    have c4 := c3.q q4
    rw [toldV_rt hW hH hb h49]
    refine q_156_161 hn (if_y (told_eq h49) ?_)
    rw [show fz + 545 + 2 = fz + 507 + 40 by omega]
    refine lm_bands (d := d) c4 hgw fun I5 q5 => q_156_171 hn (if_n (by decide) (q_156_179 hn ?_))
    have c5 := c4.q q5
    rw [show fz + 507 + 1 = fz + 506 + 2 by omega]
    have esm2 : 2 * (Int32.ofNat W + Int32.ofNat H) = Int32.ofNat (2 * (H + W)) := by rw [Nat.add_comm H W]; exact esm
    refine tu_turn (d := d) (y := 1) (by decide) (by decide) c5 esm2 fun I6 J6 f6 c6 => ?_
    refine tu_turn (d := d) (y := 2) (by decide) (by decide) c6 esm fun I7 J7 f7 c7 => ?_
    refine tu_turn (d := d) (y := 3) (by decide) (by decide) c7 esm2 fun I8 J8 f8 c8 => ?_
    refine q_156_184 hn (if_y (by decide) (q_156_221 hn (if_n (by decide) ?_)))
    rw [show fz + 506 + 2 = fz + 338 + 170 by omega]
    refine lm_print (d := d + 3) hn c8 fun I9 q9 => ?_
    have c9 := c8.q q9
    refine q_156_230 hn (if_y (by rw [prV_cg hW hH (CEq_4 hW hH)]; exact lg_self _) ?_)
    rw [show fz + 338 + 1 = fz + 339 by omega]
    exact tu_245 (d := d) c9 fun I' J' f' c' => h I' J' (((((((f13.tr q4.cl).tr q5.cl).tr f6).tr f7).tr f8).tr q9.cl).tr f') c'
  refine q_156_128 hn (if_c (fun z => at154 92 ?_) (fun z => if_c (fun y => at154 47 ?_) (fun y => at154 _ ?_)))
  · rw [z]; rfl
  · rw [y]; rfl
  · unfold tcB; rw [if_neg z, if_neg y]
theorem lm_turned (hc : CSt I J W H C w hs t T) (hgw : GoodW w) (h : ∀ I' J', ClF I J I' J' → CSt I' J' W H C w [] t T → EX (cal (d + 45)) k Q pc L (.int 1 :: r) u (hp (fz + 1) 59 (lay Ln) I' J')) :
    CA (cal (d + 45)) 156 [.ref 1] (hp (fz + 716) 59 (lay Ln) I J) (fun w => KW (d + 45) k Q pc L r u w 156 (hp (fz + 716) 59 (lay Ln) I J)) :=
  ⟨715, Or.inr (show 715 < fz + 716 by omega), call_in (d := d + 44) (Nat.le_of_ble_eq_true rfl) rfl rfl (tu_all (d := d) hc hgw fun I' J' f c => kw_va rfl rfl (by omega) (by omega) (h I' J' f c))⟩
end TUR
