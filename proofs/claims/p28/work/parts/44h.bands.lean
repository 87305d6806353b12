/-! ===== areBands (by program, wip/p28/mk46.py) ===== -/
section ABG
variable {d k nn Ln fz : Nat} {Q : Post} {pc : Nat} {L : Lc} {r : List Value} {u : Nat × Nat} {I : HI} {J : HJ} {W H : Nat} {C : Cel} {w : Wds} {hs : List Sav} {t : Nat} {T : Nat → Int32}
theorem ab_254 (hn : 60 ≤ nn) (hgw : GoodW w) {g : Nat} {a3 a4 : Int32} (hg : g < 2 * (W + H)) (hc : CSt I J W H C w hs t T) (ht : TM W H C I g 0) (h : ∀ I', RQ I I' → TM W H C I' (g + 1) 0 → EX (cal (d + 43)) 151 Q 47 [some (.ref 1), some (.int (Int32.ofNat (2 * (W + H)))), some (.int (Int32.ofNat W)), some (.int a3), some (.int a4), some (.ref 59), some (.int 1), some (.int (Int32.ofNat (g + 1))), none, none, none, none, none, none, none, none, none, none, none, none] [] (0, 0) (hp (fz + 2) nn (lay Ln) I' J)) :
    EX (cal (d + 43)) 151 Q 254 [some (.ref 1), some (.int (Int32.ofNat (2 * (W + H)))), some (.int (Int32.ofNat W)), some (.int a3), some (.int a4), some (.ref 59), none, some (.int (Int32.ofNat g)), some (.int (bE W H C g)), some (.int (Int32.ofNat (bN W H C g))), some (.int 0), some (.int 0), some (.long 0), none, some (.int 0), some (.int (b2 (fstB W H C g))), none, none, none, none] [] (0, 0) (hp (fz + 3) nn (lay Ln) I J) := by
  have hd := hc.dim
  have h49 := hc.w49
  have h98 := hc.bn98 hg
  have hn9 : 59 ≤ nn := by omega
  have hbp := bN_pos (W := W) (H := H) (C := C) (g := g)
  refine q_151_254 hn (lx_cellOf (d := d + 3) (fz := fz + 1) hn9 hc ?_ ?_)
  · unfold inP
    rw [oN_clamp (by omega), in_no (Nat.le_refl _) (by omega), Bool.and_false]
  refine q_151_262 hn (if_y rfl (lk_band (d := d + 3) hn9 hc (in_of hg (by omega)) (by decide) ?_))
  rw [oN_clamp (by omega), bF_2]
  refine q_151_274 hn ?_
  rw [show Int32.ofNat (bN W H C g) - 1 = Int32.ofNat (bN W H C g - 1) from oN_sub hbp]
  refine lk_cellOf (d := d + 3) hn9 hc (ip_of hg (by omega) (by omega) (by omega)) ?_
  rw [oN_clamp (by omega), oN_clamp (by omega)]
  refine q_151_284 hn (if_y rfl (q_151_292 hn ?_))
  refine ab_in (d := d) hn hg (bN W H C g) 0 I (Nat.zero_add _) hc ht fun I1 q1 t1 => ?_
  have c1 := hc.r q1
  refine q_151_532 hn (if_n (by decide) (lk_band (d := d + 3) hn9 c1 (in_of hg (by omega)) (by decide) ?_))
  rw [oN_clamp (by omega), bF_4]
  refine q_151_546 hn (if_y rfl (lk_band (d := d + 3) hn9 c1 (in_of hg (by omega)) (by decide) ?_))
  rw [oN_clamp (by omega), bF_5]
  refine q_151_558 hn (if_y rfl (lk_band (d := d + 3) hn9 c1 (in_of hg (by omega)) (by decide) ?_))
  rw [oN_clamp (by omega), bF_6]
  have done : EX (cal (d + 43)) 151 Q 579 [some (.ref 1), some (.int (Int32.ofNat (2 * (W + H)))), some (.int (Int32.ofNat W)), some (.int a3), some (.int a4), some (.ref 59), none, some (.int (Int32.ofNat g)), none, none, none, none, none, none, none, none, none, none, none, none] [.int (b2 (crB (pC W H C g) (bN W H C g))), .int (b2 (crB (pC W H C g) (bN W H C g)))] (0, 0) (hp (fz + 2) nn (lay Ln) I1 J) := by
    refine q_151_579 hn (if_y rfl (lm_reading (d := d) hn9 c1 hgw hg fun I2 q2 => q_151_588 hn (if_n (by decide) (q_151_596 hn ?_))))
    rw [oN_succ]
    exact h I2 (q1.tr q2.rq) (t1.q q2).nxt
  refine q_151_569 hn ?_
  cases hcr : crB (pC W H C g) (bN W H C g) with
  | false => rw [hcr] at done; exact if_y rfl done
  | true => rw [hcr] at done; exact if_n (by decide) done
theorem ab_187 (hn : 60 ≤ nn) (hgw : GoodW w) {g : Nat} {a3 a4 : Int32} (hg : g < 2 * (W + H)) (hc : CSt I J W H C w hs t T) (h : EX (cal (d + 43)) 151 Q 254 [some (.ref 1), some (.int (Int32.ofNat (2 * (W + H)))), some (.int (Int32.ofNat W)), some (.int a3), some (.int a4), some (.ref 59), none, some (.int (Int32.ofNat g)), some (.int (bE W H C g)), some (.int (Int32.ofNat (bN W H C g))), some (.int 0), some (.int 0), some (.long 0), none, some (.int 0), some (.int (b2 (fstB W H C g))), none, none, none, none] [] (0, 0) (hp (fz + 3) nn (lay Ln) I J)) :
    EX (cal (d + 43)) 151 Q 187 [some (.ref 1), some (.int (Int32.ofNat (2 * (W + H)))), some (.int (Int32.ofNat W)), some (.int a3), some (.int a4), some (.ref 59), none, some (.int (Int32.ofNat g)), some (.int (bE W H C g)), some (.int (Int32.ofNat (bN W H C g))), some (.int 0), some (.int 0), some (.long 0), none, some (.int 0), some (.int (b2 (fstB W H C g))), none, none, none, none] [] (0, 0) (hp (fz + 3) nn (lay Ln) I J) := by
  have hd := hc.dim
  have h49 := hc.w49
  have h98 := hc.bn98 hg
  have hn9 : 59 ≤ nn := by omega
  have hbp := bN_pos (W := W) (H := H) (C := C) (g := g)
  refine q_151_187 hn ?_
  rcases bE_cases (C := C) (by omega) (by omega) hg with ⟨y, y2⟩ | ⟨q, hq1, -, hq2, -⟩
  · refine if_y y (lk_band (d := d + 3) (fz := fz + 1) hn9 hc (in_of hg (by omega)) (by decide) ?_)
    rw [oN_clamp (by omega), bF_2]
    have hpc := pC_lt (C := C) (by omega) (by omega) hg (i := bN W H C g - 1) (by omega)
    refine q_151_201 hn (lk_cell (d := d + 3) (fz := fz + 1) hn9 hc (in_of hpc (by omega)) (by decide) ?_)
    rw [oN_clamp (by omega), cF_0]
    exact q_151_205 hn (if_y y2 h)
  · obtain ⟨r1, r2, r3, r4⟩ := rev_all (C := C) (by omega) (by omega) (by omega) hg hq1 (by omega)
    have r5 := rev_cnt (C := C) (by omega) (by omega) (by omega) hg hq1 (by omega) (fun c => isCB (C c))
    rw [hq1] at h ⊢
    refine if_n (g_ne (by omega)) (lk_band (d := d + 3) (fz := fz + 1) hn9 hc (in_of r1 (by omega)) (by decide) ?_)
    rw [oN_clamp (by omega), bF_1, r2]
    refine q_151_220 hn (if_y rfl (lk_band (d := d + 3) (fz := fz + 1) hn9 hc (in_of r1 (by omega)) (by decide) ?_))
    rw [oN_clamp (by omega), bF_3, r3]
    refine q_151_232 hn (if_y rfl (lk_band (d := d + 3) (fz := fz + 1) hn9 hc (in_of r1 (by omega)) (by decide) ?_))
    rw [oN_clamp (by omega), bF_4, r5]
    refine q_151_244 hn (lk_band (d := d + 3) (fz := fz + 1) hn9 hc (in_of hg (by omega)) (by decide) ?_)
    rw [oN_clamp (by omega), bF_4]
    exact q_151_251 hn (if_y rfl h)
theorem ab_gate (hn : 60 ≤ nn) (hgw : GoodW w) : ∀ n g I, g + n = 2 * (W + H) → CSt I J W H C w hs t T → TM W H C I g 0 → (∀ I', RQ I I' → TM W H C I' (2 * (W + H)) 0 → EX (cal (d + 43)) 151 Q 604 [some (.ref 1), none, some (.int (Int32.ofNat W)), some (.int (Int32.ofNat (nFst W H C (2 * (W + H))))), some (.int (Int32.ofNat (nCrs W H C (2 * (W + H))))), some (.ref 59), some (.int 1), none, none, none, none, none, none, none, none, none, none, none, none, none] [] (0, 0) (hp (fz + 2) nn (lay Ln) I' J)) →
    EX (cal (d + 43)) 151 Q 47 [some (.ref 1), some (.int (Int32.ofNat (2 * (W + H)))), some (.int (Int32.ofNat W)), some (.int (Int32.ofNat (nFst W H C g))), some (.int (Int32.ofNat (nCrs W H C g))), some (.ref 59), some (.int 1), some (.int (Int32.ofNat g)), none, none, none, none, none, none, none, none, none, none, none, none] [] (0, 0) (hp (fz + n + 2) nn (lay Ln) I J) := by
  intro n
  induction n with
  | zero =>
    intro g I hk hc ht h
    have hd := hc.dim
    have hk : g = 2 * (W + H) := hk
    subst hk
    exact q_151_47 hn (if_y (Int32.le_refl _) (h I (RQ.rf I) ht))
  | succ n ih =>
    intro g I hk hc ht h
    have hd := hc.dim
    have h49 := hc.w49
    have hn9 : 59 ≤ nn := by omega
    have hg : g < 2 * (W + H) := by omega
    have h98 := hc.bn98 hg
    have hbp := bN_pos (W := W) (H := H) (C := C) (g := g)
    rw [show fz + (n + 1) + 2 = fz + n + 3 by omega]
    refine q_151_47 hn (if_n (fun z => ?_) (if_n (by decide) (lk_band (d := d + 3) (fz := fz + n + 1) hn9 hc (in_of hg (by omega)) (by decide) ?_)))
    · have := (oN_le (by omega) (by omega)).mp z
      omega
    rw [oN_clamp (by omega), bF_1]
    refine q_151_65 hn (lk_band (d := d + 3) (fz := fz + n + 1) hn9 hc (in_of hg (by omega)) (by decide) ?_)
    rw [oN_clamp (by omega), bF_3]
    refine q_151_74 hn (lk_band (d := d + 3) (fz := fz + n + 1) hn9 hc (in_of hg (by omega)) (by decide) ?_)
    rw [oN_clamp (by omega), bF_0]
    have n1 : nFst W H C (g + 1) = nFst W H C g + (if fstB W H C g then 1 else 0) := rfl
    have n2 : nCrs W H C (g + 1) = nCrs W H C g + (if fstB W H C g && crB (pC W H C g) (bN W H C g) then 1 else 0) := rfl
    have at187 : EX (cal (d + 43)) 151 Q 187 [some (.ref 1), some (.int (Int32.ofNat (2 * (W + H)))), some (.int (Int32.ofNat W)), some (.int (Int32.ofNat (nFst W H C (g + 1)))), some (.int (Int32.ofNat (nCrs W H C (g + 1)))), some (.ref 59), none, some (.int (Int32.ofNat g)), some (.int (bE W H C g)), some (.int (Int32.ofNat (bN W H C g))), some (.int 0), some (.int 0), some (.long 0), none, some (.int 0), some (.int (b2 (fstB W H C g))), none, none, none, none] [] (0, 0) (hp (fz + n + 3) nn (lay Ln) I J) :=
      ab_187 (d := d) hn hgw hg hc (ab_254 (d := d) hn hgw hg hc ht fun I1 q1 t1 => ih (g + 1) I1 (by omega) (hc.r q1) t1 fun I2 q2 t2 => h I2 (q1.tr q2) t2)
    have at139 : ∀ y : Nat, y = (if fstB W H C g && crB (pC W H C g) (bN W H C g) then 1 else 0) → EX (cal (d + 43)) 151 Q 139 [some (.ref 1), some (.int (Int32.ofNat (2 * (W + H)))), some (.int (Int32.ofNat W)), some (.int (Int32.ofNat (nFst W H C (g + 1)))), none, some (.ref 59), none, some (.int (Int32.ofNat g)), some (.int (bE W H C g)), some (.int (Int32.ofNat (bN W H C g))), some (.int 0), some (.int 0), some (.long 0), none, some (.int 0), some (.int (b2 (fstB W H C g))), none, none, none, none] [.int (Int32.ofNat y), .int (Int32.ofNat (nCrs W H C g))] (0, 0) (hp (fz + n + 3) nn (lay Ln) I J) := by
      intro y hy
      refine q_151_139 hn (if_n (fun z => ?_) ?_)
      · have := (oN_le (a := bN W H C g) (b := 0) (by omega) (by decide)).mp z
        omega
      rw [oN_add, hy, ← n2]
      cases hf : fstB W H C g with
      | true =>
        have at162 : EX (cal (d + 43)) 151 Q 162 [some (.ref 1), some (.int (Int32.ofNat (2 * (W + H)))), some (.int (Int32.ofNat W)), some (.int (Int32.ofNat (nFst W H C (g + 1)))), some (.int (Int32.ofNat (nCrs W H C (g + 1)))), some (.ref 59), none, some (.int (Int32.ofNat g)), some (.int (bE W H C g)), some (.int (Int32.ofNat (bN W H C g))), some (.int 0), some (.int 0), some (.long 0), none, some (.int 0), some (.int (b2 true)), none, none, none, none] [.int (b2 true)] (0, 0) (hp (fz + n + 3) nn (lay Ln) I J) := by
          rw [hf] at at187
          exact q_151_162 hn (q_151_167 hn (if_y rfl (if_n (by decide) at187)))
        refine if_c (fun _ => at162) (fun z => if_n (fun y => ?_) at162)
        rcases fstB_iff.mp hf with x | x
        · exact z x
        · exact absurd y (Int32.not_lt.mpr x)
      | false =>
        have e1 : ¬ (bE W H C g = -1 ∨ Int32.ofNat g ≤ bE W H C g) := fun z => by rw [fstB_iff.mpr z] at hf; cases hf
        have e2 : bE W H C g ≠ -1 := fun z => e1 (Or.inl z)
        have e3 : bE W H C g < Int32.ofNat g := Int32.not_le.mp fun z => e1 (Or.inr z)
        refine if_n e2 (if_y e3 (q_151_167 hn (if_y rfl (if_y rfl (lk_band (d := d + 3) (fz := fz + n + 1) hn9 hc (in_of hg (by omega)) (by decide) ?_)))))
        rw [oN_clamp (by omega), bF_0]
        have e4 : bFr W H C g = bE W H C g := by unfold bFr; rw [if_neg e2, if_pos e3]
        rw [hf] at at187
        exact q_151_182 hn (if_y e4 at187)
    have at105 : EX (cal (d + 43)) 151 Q 105 [some (.ref 1), some (.int (Int32.ofNat (2 * (W + H)))), some (.int (Int32.ofNat W)), some (.int (Int32.ofNat (nFst W H C g))), some (.int (Int32.ofNat (nCrs W H C g))), some (.ref 59), none, some (.int (Int32.ofNat g)), some (.int (bE W H C g)), some (.int (Int32.ofNat (bN W H C g))), some (.int 0), some (.int 0), some (.long 0), none, some (.int 0), none, none, none, none, none] [.int (b2 (fstB W H C g))] (0, 0) (hp (fz + n + 3) nn (lay Ln) I J) := by
      refine q_151_105 hn ?_
      cases hf : fstB W H C g with
      | false =>
        rw [hf] at at139
        refine if_y rfl (q_151_118 hn (if_y rfl ?_))
        rw [show (Int32.ofNat (nFst W H C g)) + 0 = (Int32.ofNat (nFst W H C (g + 1))) from by rw [n1, hf]; exact oN_add _ 0]
        exact at139 0 rfl
      | true =>
        rw [hf] at at139
        refine if_n (by decide) (q_151_118 hn (if_n (by decide) (lk_band (d := d + 3) (fz := fz + n + 1) hn9 hc (in_of hg (by omega)) (by decide) ?_)))
        rw [show (Int32.ofNat (nFst W H C g)) + 1 = (Int32.ofNat (nFst W H C (g + 1))) from by rw [n1, hf]; exact oN_add _ 1, oN_clamp (by omega), bF_6]
        refine q_151_135 hn ?_
        cases hcr : crB (pC W H C g) (bN W H C g) with
        | false => rw [hcr] at at139; exact at139 0 rfl
        | true => rw [hcr] at at139; exact at139 1 rfl
    have hbf := bFr_fst (C := C) (by omega) (by omega) (by omega) hg
    refine q_151_95 hn (if_c (fun z => ?_) (fun z => ?_))
    · rw [hbf.mp z] at at105; exact at105
    · have : fstB W H C g = false := by
        cases e : fstB W H C g with
        | false => rfl
        | true => exact absurd (hbf.mpr e) z
      rw [this] at at105; exact at105
theorem ab_cell (hn : 60 ≤ nn) (hc : CSt I J W H C w hs t T) (ht : TM W H C I (2 * (W + H)) 0) (h : EX (cal (d + 43)) 151 Q 748 [some (.ref 1), none, none, some (.int (Int32.ofNat (nFst W H C (2 * (W + H))))), some (.int (Int32.ofNat (nCrs W H C (2 * (W + H))))), none, some (.int 1), none, none, none, none, none, none, none, none, none, none, none, none, none] [] (0, 0) (hp (fz + 2) nn (lay Ln) I J)) : ∀ n k, k + n = W * H →
    EX (cal (d + 43)) 151 Q 607 [some (.ref 1), none, some (.int (Int32.ofNat W)), some (.int (Int32.ofNat (nFst W H C (2 * (W + H))))), some (.int (Int32.ofNat (nCrs W H C (2 * (W + H))))), some (.ref 59), some (.int 1), some (.int (Int32.ofNat k)), none, none, none, none, none, none, none, none, none, none, none, none] [] (0, 0) (hp (fz + 2) nn (lay Ln) I J) := by
  have hd := hc.dim
  have h49 := hc.w49
  have hn9 : 59 ≤ nn := by omega
  intro n
  induction n with
  | zero =>
    intro k hk
    have hk : k = W * H := hk
    subst hk
    refine q_151_607 hn (lk_value (d := d + 3) hn9 hc (by decide) ?_)
    rw [nF_1]
    exact q_151_615 hn (if_y (by rw [oN_mul]; exact Int32.le_refl _) h)
  | succ n ih =>
    intro k hk
    have hkb : k < W * H := by omega
    refine q_151_607 hn (lk_value (d := d + 3) hn9 hc (by decide) ?_)
    rw [nF_1]
    refine q_151_615 hn (if_n (fun z => ?_) (if_n (by decide) (lk_cell (d := d + 3) hn9 hc (in_of hkb (by omega)) (by decide) ?_)))
    · rw [oN_mul] at z
      have := (oN_le (by omega) (by omega)).mp z
      omega
    rw [oN_clamp (by omega), cF_1]
    refine q_151_631 hn (lk_cell (d := d + 3) hn9 hc (in_of hkb (by omega)) (by decide) ?_)
    rw [oN_clamp (by omega), cF_2]
    refine q_151_640 hn (lk_cell (d := d + 3) hn9 hc (in_of hkb (by omega)) (by decide) ?_)
    rw [oN_clamp (by omega), cF_3]
    have e59 : I 59 k = Int32.ofNat (entN W H C k (2 * (W + H))) := by
      rw [ht k (by omega)]
      congr 1
      split <;> rfl
    have h4 := ent_le4 (C := C) (c := k) (W := W) (H := H) (by omega) (by omega)
    have hrc := ent_rc (C := C) (c := k) (W := W) (H := H) (by omega)
    have hro := lowB_val (W := W) (H := H) (C := C) (c := k) (p := 1) (G := 2 * (W + H)) (by omega)
    have hco := lowB_val (W := W) (H := H) (C := C) (c := k) (p := 0) (G := 2 * (W + H)) (by omega)
    have nx : EX (cal (d + 43)) 151 Q 740 [some (.ref 1), none, some (.int (Int32.ofNat W)), some (.int (Int32.ofNat (nFst W H C (2 * (W + H))))), some (.int (Int32.ofNat (nCrs W H C (2 * (W + H))))), some (.ref 59), none, some (.int (Int32.ofNat k)), none, none, none, none, none, none, none, none, none, none, none, none] [.int 1] (0, 0) (hp (fz + 2) nn (lay Ln) I J) := by
      refine q_151_740 hn ?_
      rw [oN_succ]
      exact ih (k + 1) (by omega)
    have at732 : ∀ b : Int32, b = (if 0 < entN W H C k (2 * (W + H)) then 1 else 0) → EX (cal (d + 43)) 151 Q 732 [some (.ref 1), none, some (.int (Int32.ofNat W)), some (.int (Int32.ofNat (nFst W H C (2 * (W + H))))), some (.int (Int32.ofNat (nCrs W H C (2 * (W + H))))), some (.ref 59), none, some (.int (Int32.ofNat k)), none, none, none, none, none, none, none, none, none, none, none, none] [.int b, .int (if 0 < entN W H C k (2 * (W + H)) then 1 else 0)] (0, 0) (hp (fz + 2) nn (lay Ln) I J) := fun b hb => q_151_732 hn (if_y hb.symm nx)
    have at715 : EX (cal (d + 43)) 151 Q 715 [some (.ref 1), none, some (.int (Int32.ofNat W)), some (.int (Int32.ofNat (nFst W H C (2 * (W + H))))), some (.int (Int32.ofNat (nCrs W H C (2 * (W + H))))), some (.ref 59), none, some (.int (Int32.ofNat k)), some (.int (lowB W H C 1 k (2 * (W + H)))), some (.int (lowB W H C 0 k (2 * (W + H)))), none, none, none, none, none, none, none, none, none, none] [.int (if 0 < entN W H C k (2 * (W + H)) then 1 else 0)] (0, 0) (hp (fz + 2) nn (lay Ln) I J) := by
      refine q_151_715 hn (if_c (fun z => if_c (fun y => at732 0 ?_) (fun y => q_151_727 hn (at732 1 ?_))) (fun z => q_151_727 hn (at732 1 ?_)))
      · rw [if_neg (fun x => ?_)]
        rcases hrc.mp x with x | x
        · exact x z
        · exact x y
      · rw [if_pos (hrc.mpr (Or.inr y))]
      · rw [if_pos (hrc.mpr (Or.inl z))]
    have at702 : EX (cal (d + 43)) 151 Q 702 [some (.ref 1), none, some (.int (Int32.ofNat W)), some (.int (Int32.ofNat (nFst W H C (2 * (W + H))))), some (.int (Int32.ofNat (nCrs W H C (2 * (W + H))))), some (.ref 59), none, some (.int (Int32.ofNat k)), some (.int (lowB W H C 1 k (2 * (W + H)))), some (.int (lowB W H C 0 k (2 * (W + H)))), none, none, none, none, none, none, none, none, none, none] [] (0, 0) (hp (fz + 2) nn (lay Ln) I J) := by
      refine q_151_702 hn ⟨oN_vin (by omega) (by decide), ?_⟩
      rw [oN_clamp (by omega), e59]
      refine if_c (fun z => ?_) (fun z => ?_)
      · have z := (oN_le (a := entN W H C k (2 * (W + H))) (b := 0) (by omega) (by decide)).mp z
        rw [if_neg (by omega)] at at715; exact at715
      · have z : 0 < entN W H C k (2 * (W + H)) := by
          apply Classical.byContradiction
          intro y
          exact z ((oN_le (a := entN W H C k (2 * (W + H))) (b := 0) (by omega) (by decide)).mpr (by omega))
        rw [if_pos z] at at715; exact at715
    have at684 : EX (cal (d + 43)) 151 Q 684 [some (.ref 1), none, some (.int (Int32.ofNat W)), some (.int (Int32.ofNat (nFst W H C (2 * (W + H))))), some (.int (Int32.ofNat (nCrs W H C (2 * (W + H))))), some (.ref 59), none, some (.int (Int32.ofNat k)), some (.int (lowB W H C 1 k (2 * (W + H)))), some (.int (lowB W H C 0 k (2 * (W + H)))), none, none, none, none, none, none, none, none, none, none] [] (0, 0) (hp (fz + 2) nn (lay Ln) I J) := by
      refine q_151_684 hn (if_c (fun _ => at702) (fun z => ?_))
      rcases hco with ⟨y, -⟩ | ⟨q, q1, q2, q3, -⟩
      · exact absurd y z
      · have e1 := at702
        rw [q2] at e1 ⊢
        refine lk_band (d := d + 3) hn9 hc (in_of q1 (by omega)) (by decide) ?_
        rw [oN_clamp (by omega), bF_0, (bFr_fst (by omega) (by omega) (by omega) q1).mpr q3]
        exact q_151_697 hn (if_y rfl e1)
    refine q_151_649 hn ⟨oN_vin (by omega) (by decide), ?_⟩
    rw [oN_clamp (by omega), e59]
    refine if_y rfl (if_n (fun z => ?_) (if_c (fun _ => at684) (fun z => ?_)))
    · have := (oN_lt (a := 4) (b := entN W H C k (2 * (W + H))) (by decide) (by omega)).mp z
      omega
    · rcases hro with ⟨y, -⟩ | ⟨q, q1, q2, q3, -⟩
      · exact absurd y z
      · have e1 := at684
        rw [q2] at e1 ⊢
        refine lk_band (d := d + 3) hn9 hc (in_of q1 (by omega)) (by decide) ?_
        rw [oN_clamp (by omega), bF_0, (bFr_fst (by omega) (by omega) (by omega) q1).mpr q3]
        exact q_151_679 hn (if_y rfl e1)
theorem cloL_of {n : Nat} {L : Lc} (h : ∀ x, x ∈ L → ∀ v, x = some v → cloV n v) : cloL n L := by
  intro i v e
  unfold lk at e
  split at e
  · rename_i v' h1
    cases e
    exact h _ (List.mem_of_getElem? h1) v rfl
  · cases e
theorem ab_all (hgw : GoodW w) (hc : CSt I J W H C w hs t T) (h : ∀ m I', m ≤ fz + 40 → fz + 2 ≤ m → RQ I I' → Q (.inl (some (.int 1))) (hp m 59 (lay Ln) I' J)) :
    EX (cal (d + 43)) 151 Q 0 [some (.ref 1), none, none, none, none, none, none, none, none, none, none, none, none, none, none, none, none, none, none, none] [] (0, 0) (hp (fz + 40) 59 (lay Ln) I J) := by
  have hd := hc.dim
  have h49 := hc.w49
  refine q_151_0 (Nat.le_refl _) (lk_value (d := d + 3) (fz := fz + 38) (Nat.le_refl _) hc (by decide) ?_)
  rw [nF_6]
  refine q_151_6 (Nat.le_refl _) (lk_value (d := d + 3) (fz := fz + 38) (Nat.le_refl _) hc (by decide) ?_)
  rw [nF_0]
  refine q_151_12 (Nat.le_refl _) ?_
  refine e_row (fz := fz + 30) (cx cd_151_20 rfl rfl) rfl (cloL_of fun x hx v e => ?_) ?_
  · subst e
    simp at hx
    rcases hx with rfl | rfl | rfl | rfl | rfl
    · show 1 < 59
      decide
    · trivial
    · trivial
    · trivial
  obtain ⟨I1, hI1⟩ : ∃ I1 : HI, (fun a' q => bif Nat.beq a' 59 then 0 else I a' q) = I1 := ⟨_, rfl⟩
  have q1 : RQ I I1 := fun a _ ha => by
    rw [← hI1]
    funext q
    show (bif Nat.beq a 59 then (0 : Int32) else I a q) = I a q
    cases e : Nat.beq a 59 with
    | false => rfl
    | true => exact absurd (Nat.eq_of_beq_eq_true e) ha
  have t1 : TM W H C I1 0 0 := fun c _ => by
    rw [← hI1]
    show (0 : Int32) = Int32.ofNat (0 + if fstB W H C 0 then 0 else 0)
    split <;> rfl
  rw [hI1]
  have c1 := hc.r q1
  have hn : 60 ≤ 60 := Nat.le_refl _
  have hn9 : 59 ≤ 60 := by decide
  refine q_151_22 hn (lk_value (d := d + 3) (fz := fz + 29) hn9 c1 (by decide) ?_)
  rw [nF_1]
  refine q_151_32 hn (if_y (by rw [oN_add]; exact (oN_mul 2 (W + H)).symm) (q_151_42 hn ?_))
  obtain ⟨m, hm⟩ : ∃ m, fz + 29 + 2 = m + 2 * (W + H) + 2 := ⟨fz + 29 - 2 * (W + H), by omega⟩
  rw [hm]
  refine ab_gate (d := d) hn hgw (2 * (W + H)) 0 I1 (Nat.zero_add _) c1 t1 fun I2 q2 t2 => q_151_604 hn ?_
  have c2 := c1.r q2
  refine ab_cell (d := d) hn c2 t2 ?_ (W * H) 0 (Nat.zero_add _)
  refine q_151_748 hn (if_n (by decide) (lk_value (d := d + 3) hn9 c2 (by decide) ?_))
  rw [nF_7]
  refine q_151_760 hn (if_y rfl (lk_value (d := d + 3) hn9 c2 (by decide) ?_))
  rw [nF_8]
  refine q_151_771 hn (if_y rfl ?_)
  exact e_zret6 (fz := m + 1) (cxk (m := [true, true, true, true, true, true, true, true, true, true, true, true, true, true, true, true, true, true, true, true]) (z := 20) cd_151_779 rfl (by decide) rfl rfl) rfl (Or.inr rfl) (h _ I2 (by omega) (by omega) (q1.tr q2))
theorem lm_bands (hc : CSt I J W H C w hs t T) (hgw : GoodW w) (h : ∀ I', QF I J I' J → EX (cal (d + 44)) k Q pc L (.int 1 :: r) u (hp (fz + 1) 59 (lay Ln) I' J)) :
    CA (cal (d + 44)) 151 [.ref 1] (hp (fz + 40) 59 (lay Ln) I J) (fun w => KW (d + 44) k Q pc L r u w 151 (hp (fz + 40) 59 (lay Ln) I J)) := by
  refine ⟨39, Or.inr (show 39 < fz + 40 by omega), call_in (d := d + 43) (Nat.le_of_ble_eq_true rfl) rfl rfl (ab_all (d := d) hgw hc fun m I1 h1 h2 q1 => ?_)⟩
  obtain ⟨I2, hI2⟩ : ∃ I2 : HI, (fun a q => if a = 59 then I a q else I1 a q) = I2 := ⟨_, rfl⟩
  have e1 : hp m 59 (lay Ln) I1 J = hp m 59 (lay Ln) I2 J := hp_row fun a ha => by
    rw [← hI2]
    funext q
    show I1 a q = if a = 59 then I a q else I1 a q
    rw [if_neg (by omega)]
  have q2 : QF I J I2 J := ⟨fun a ha => by
    rw [← hI2]
    funext q
    show (if a = 59 then I a q else I1 a q) = I a q
    split
    · rfl
    · rename_i z
      rw [q1 a ha z], fun _ _ => rfl⟩
  rw [e1]
  exact kw_va rfl rfl (by omega) (by omega) (h I2 q2)
end ABG
