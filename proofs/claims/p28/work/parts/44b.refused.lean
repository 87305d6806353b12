/-! ===== refused ===== -/
section RFS
variable {d k nn Ln fz : Nat} {Q : Post} {pc : Nat} {L : Lc} {r : List Value} {u : Nat × Nat} {I : HI} {J : HJ} {W H : Nat} {C : Cel} {w : Wds} {hs : List Sav} {t : Nat} {T : Nat → Int32}
theorem nF_0 : nF W H C w ((0 : Int32).toNatClampNeg) = Int32.ofNat W := by rw [show (0 : Int32).toNatClampNeg = 0 by decide]; rfl
theorem nF_1 : nF W H C w ((1 : Int32).toNatClampNeg) = Int32.ofNat H := by rw [show (1 : Int32).toNatClampNeg = 1 by decide]; rfl
theorem nF_2 : nF W H C w ((2 : Int32).toNatClampNeg) = Int32.ofNat (cntB (fun c => isRB (C c)) (W * H)) := by rw [show (2 : Int32).toNatClampNeg = 2 by decide]; rfl
theorem nF_4 : nF W H C w ((4 : Int32).toNatClampNeg) = Int32.ofNat (cntB (fun c => isCB (C c)) (W * H)) := by rw [show (4 : Int32).toNatClampNeg = 4 by decide]; rfl
theorem nF_5 : nF W H C w ((5 : Int32).toNatClampNeg) = Int32.ofNat (cntB (fun c => decide (C c = 35)) (W * H)) := by rw [show (5 : Int32).toNatClampNeg = 5 by decide]; rfl
theorem nF_6 : nF W H C w ((6 : Int32).toNatClampNeg) = Int32.ofNat (2 * (W + H)) := by rw [show (6 : Int32).toNatClampNeg = 6 by decide]; rfl
theorem nF_7 : nF W H C w ((7 : Int32).toNatClampNeg) = Int32.ofNat (nFst W H C (2 * (W + H))) := by rw [show (7 : Int32).toNatClampNeg = 7 by decide]; rfl
theorem nF_8 : nF W H C w ((8 : Int32).toNatClampNeg) = Int32.ofNat (nCrs W H C (2 * (W + H))) := by rw [show (8 : Int32).toNatClampNeg = 8 by decide]; rfl
theorem nF_9 : nF W H C w ((9 : Int32).toNatClampNeg) = Int32.ofNat w.1 := by rw [show (9 : Int32).toNatClampNeg = 9 by decide]; rfl
theorem lg_self (x : Int64) : lg_cmp x x = 0 := by
  unfold lg_cmp
  simp
theorem rf_tail (hn : 59 ≤ nn) {x : Int64} (hx : x = prV W H C w) (hc : CSt I J W H C w hs t T) (h : ∀ I' T', ClF I J I' J → CSt I' J W H C w hs 0 T' → Q (.inl (some (.int 1))) (hp (fz + 1) nn (lay Ln) I' J)) :
    EX (cal (d + 41)) 150 Q 224 [some (.ref 1), some (.long x), none, none, some (.int (Int32.ofNat (2 * (W + H)))), none] [.int 1] (0, 0) (hp (fz + 178) nn (lay Ln) I J) := by
  have hd := hc.dim
  refine q_150_224 hn (if_n (by decide) (lx_wordsOf (d := d + 1) hn hc (in_no (Nat.le_refl _) (by omega)) ?_))
  refine q_150_237 hn (if_y rfl (lf_alike (d := d + 1) hn hc in_neg ?_))
  refine q_150_247 hn (if_y rfl (lx_choices (d := d + 1) hn hc (by decide) ?_))
  refine q_150_257 hn (if_y rfl (lx_nodes (d := d + 1) hn hc (by decide) ?_))
  refine q_150_268 hn (if_y rfl (lx_chosen (d := d + 1) hn hc (by decide) ?_))
  refine q_150_278 hn (if_y rfl (lf_append (d := d + 1) hn hc (by decide) ?_))
  refine q_150_290 hn (if_y rfl (lm_clear (d := d + 1) hn hc fun I1 f1 c1 => ?_))
  refine q_150_299 hn (if_n (oN_nneg (by have := hc.tx.le; omega)) (lx_addWord (d := d + 1) hn c1 cn_z ?_))
  refine q_150_306 hn (if_y rfl (lk_append (d := d + 1) hn c1 (by decide) (by decide) fun I2 f2 c2 => ?_))
  refine q_150_317 hn (if_y rfl (lx_addWord (d := d + 1) hn c2 cn_A ?_))
  refine q_150_325 hn (if_y rfl (lm_clear (d := d + 1) hn c2 fun I3 f3 c3 => ?_))
  refine q_150_334 hn (if_y rfl ?_)
  refine q_150_343 hn (if_n (by decide) (lm_print (d := d) hn c3 fun I4 q4 => ?_))
  refine q_150_354 hn (if_y (by rw [hx]; exact lg_self _) ?_)
  exact q_150_364 hn ⟨Or.inr rfl, h I4 _ (((f1.tr f2).tr f3).tr q4.cl) (c3.q q4)⟩
theorem rf_all (hn : 59 ≤ nn) (hc : CSt I J W H C w hs t T) (h : ∀ I' T', ClF I J I' J → CSt I' J W H C w hs 0 T' → Q (.inl (some (.int 1))) (hp (fz + 1) nn (lay Ln) I' J)) :
    EX (cal (d + 41)) 150 Q 0 [some (.ref 1), none, none, none, none, none] [] (0, 0) (hp (fz + 363) nn (lay Ln) I J) := by
  have hd := hc.dim
  have h49 := hc.w49
  have hp0 : 0 < W * H := Nat.mul_pos (by omega) (by omega)
  refine q_150_0 hn ?_
  have e1 : fz + 363 = fz + 193 + 170 := by omega
  rw [e1]
  refine lm_print (d := d) hn hc fun I1 q1 => ?_
  have c1 := hc.q q1
  have h1 : ∀ I' T', ClF I1 J I' J → CSt I' J W H C w hs 0 T' → Q (.inl (some (.int 1))) (hp (fz + 1) nn (lay Ln) I' J) := fun I' T' f c => h I' T' (q1.cl.tr f) c
  have e2 : fz + 193 + 1 = fz + 194 := rfl
  rw [e2]
  refine q_150_4 hn (lk_value (d := d + 1) hn c1 (by decide) ?_)
  rw [nF_0]
  refine q_150_10 hn (lk_value (d := d + 1) hn c1 (by decide) ?_)
  rw [nF_1]
  refine q_150_15 hn (lk_value (d := d + 1) hn c1 (by decide) ?_)
  rw [nF_6, oN_mul]
  refine q_150_23 hn (lx_setSize (d := d + 1) hn c1 (by decide) ?_)
  refine q_150_32 hn (if_y rfl (lx_setSize (d := d + 1) hn c1 (by decide) ?_))
  refine q_150_45 hn (if_y rfl (lx1_setCell (d := d + 1) hn c1 (in_no (Nat.le_refl _) (by omega)) ?_))
  refine q_150_57 hn (if_y rfl (lx1_setCell (d := d + 1) hn c1 in_neg ?_))
  refine q_150_69 hn (if_y rfl (lx2_setCell (d := d + 1) hn c1 (in_0 hp0 (by omega)) (by decide) ?_))
  refine q_150_81 hn (if_y rfl (lx2_setCell (d := d + 1) hn c1 (in_0 hp0 (by omega)) (by decide) ?_))
  refine q_150_93 hn (if_y rfl (lk_value (d := d + 1) hn c1 (by decide) ?_))
  rw [nF_9]
  have h8 := c1.wd.2.1
  refine q_150_105 hn (lx_removeWord (d := d + 1) hn c1 (in_no (Nat.le_refl _) (by omega)) ?_)
  refine q_150_108 hn (if_y rfl (lx1_cell (d := d + 1) hn c1 (in_no (Nat.le_refl _) (by omega)) ?_))
  refine q_150_119 hn (if_y rfl (lx2_cell (d := d + 1) hn c1 (in_0 hp0 (by omega)) (by decide) ?_))
  refine q_150_130 hn (if_y rfl (lx_value (d := d + 1) hn c1 (by decide) ?_))
  refine q_150_140 hn (if_y rfl (lk_value (d := d + 1) hn c1 (by decide) ?_))
  rw [nF_9]
  refine q_150_152 hn (lx_word (d := d + 1) hn c1 (by rw [in_no (Nat.le_refl _) (by omega)]; rfl) ?_)
  refine q_150_156 hn (if_y rfl (lx1_band (d := d + 1) hn c1 (in_no (Nat.le_refl _) (by omega)) ?_))
  refine q_150_168 hn (if_y rfl (lx2_band (d := d + 1) hn c1 (in_0 (by omega) (by omega)) (by decide) ?_))
  refine q_150_180 hn (if_y rfl (lx_cellOf (d := d + 1) hn c1 ip_neg ?_))
  refine q_150_191 hn (if_y rfl (lx_cellOf (d := d + 1) hn c1 (ip_gt (by omega)) ?_))
  refine q_150_203 hn (if_y rfl (lx_read (d := d + 1) hn c1 (by rw [show decide ((0 : Int32) ≤ -1) = false by decide, Bool.and_false]) ?_))
  refine q_150_214 hn (if_y rfl ?_)
  exact rf_tail hn rfl c1 h1
theorem lm_refused (hn : 59 ≤ nn) (hc : CSt I J W H C w hs t T) (h : ∀ I' T', ClF I J I' J → CSt I' J W H C w hs 0 T' → EX (cal (d + 42)) k Q pc L (.int 1 :: r) u (hp (fz + 1) nn (lay Ln) I' J)) :
    CA (cal (d + 42)) 150 [.ref 1] (hp (fz + 363) nn (lay Ln) I J) (fun w => KW (d + 42) k Q pc L r u w 150 (hp (fz + 363) nn (lay Ln) I J)) :=
  ⟨362, Or.inr (show 362 < fz + 363 by omega), call_in (d := d + 41) (Nat.le_of_ble_eq_true rfl) rfl rfl (rf_all (d := d) hn hc fun I' T' f c => kw_va rfl rfl (by omega) (by omega) (h I' T' f c))⟩
end RFS
