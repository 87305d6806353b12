/-! ===== isReading ===== -/
section IRD
variable {d k nn Ln fz : Nat} {Q : Post} {pc : Nat} {L : Lc} {r : List Value} {u : Nat × Nat} {I : HI} {J : HJ} {W H : Nat} {C : Cel} {w : Wds} {hs : List Sav} {t : Nat} {T : Nat → Int32}
theorem run_facts {st : List Int32 × Bool} {v : Int32} {m Lr : List Int32} (h : Lr = runL st v ++ m) : ((st.2 = true ∧ st.1 ≠ []) → Lr.getD st.1.length 0 = 32) ∧
    Lr.getD (st.1.length + (if st.2 = true ∧ st.1 ≠ [] then 1 else 0)) 0 = 97 + f_X8_letterOf v ∧
    (isSB v = true → Lr.getD (st.1.length + (if st.2 = true ∧ st.1 ≠ [] then 1 else 0) + 1) 0 = 32 ∧ Lr.getD (st.1.length + (if st.2 = true ∧ st.1 ≠ [] then 1 else 0) + 2) 0 = 97 + f_X8_letterOf v) ∧
    (runL st v).length = st.1.length + (if st.2 = true ∧ st.1 ≠ [] then 1 else 0) + 1 + (if isSB v = true then 2 else 0) := by
  subst h
  unfold runL
  by_cases G : st.2 = true ∧ st.1 ≠ []
  · by_cases S : isSB v = true
    · rw [if_pos G, if_pos S, if_pos G, if_pos S, List.append_assoc]
      exact ⟨fun _ => gD_app' st.1 _ 0, gD_app' st.1 _ 1, fun _ => ⟨gD_app' st.1 _ 2, gD_app' st.1 _ 3⟩, by rw [List.length_append]; rfl⟩
    · rw [if_pos G, if_neg S, if_pos G, if_neg S, List.append_assoc]
      exact ⟨fun _ => gD_app' st.1 _ 0, gD_app' st.1 _ 1, fun z => absurd z S, by rw [List.length_append]; rfl⟩
  · by_cases S : isSB v = true
    · rw [if_neg G, if_pos S, if_neg G, if_pos S, List.append_assoc]
      exact ⟨fun z => absurd z G, gD_app' st.1 _ 0, fun _ => ⟨gD_app' st.1 _ 1, gD_app' st.1 _ 2⟩, by rw [List.length_append]; rfl⟩
    · rw [if_neg G, if_neg S, if_neg G, if_neg S, List.append_assoc]
      exact ⟨fun z => absurd z G, gD_app' st.1 _ 0, fun z => absurd z S, by rw [List.length_append]; rfl⟩
theorem cF_0 {c : Nat} : cF W H C c ((0 : Int32).toNatClampNeg) = C c := by rw [show (0 : Int32).toNatClampNeg = 0 by decide]; rfl
theorem cF_1 {c : Nat} : cF W H C c ((1 : Int32).toNatClampNeg) = lowB W H C 1 c (2 * (W + H)) := by rw [show (1 : Int32).toNatClampNeg = 1 by decide]; rfl
theorem cF_2 {c : Nat} : cF W H C c ((2 : Int32).toNatClampNeg) = lowB W H C 0 c (2 * (W + H)) := by rw [show (2 : Int32).toNatClampNeg = 2 by decide]; rfl
theorem cF_3 {c : Nat} : cF W H C c ((3 : Int32).toNatClampNeg) = Int32.ofNat (entN W H C c (2 * (W + H))) := by rw [show (3 : Int32).toNatClampNeg = 3 by decide]; rfl
theorem cF_4 {c : Nat} : cF W H C c ((4 : Int32).toNatClampNeg) = f_X8_letterOf (C c) := by rw [show (4 : Int32).toNatClampNeg = 4 by decide]; rfl
theorem bF_0 {g : Nat} : bF W H C g ((0 : Int32).toNatClampNeg) = bFr W H C g := by rw [show (0 : Int32).toNatClampNeg = 0 by decide]; rfl
theorem bF_1 {g : Nat} : bF W H C g ((1 : Int32).toNatClampNeg) = bE W H C g := by rw [show (1 : Int32).toNatClampNeg = 1 by decide]; rfl
theorem bF_2 {g : Nat} : bF W H C g ((2 : Int32).toNatClampNeg) = Int32.ofNat (pC W H C g (bN W H C g - 1)) := by rw [show (2 : Int32).toNatClampNeg = 2 by decide]; rfl
theorem bF_3 {g : Nat} : bF W H C g ((3 : Int32).toNatClampNeg) = Int32.ofNat (bN W H C g) := by rw [show (3 : Int32).toNatClampNeg = 3 by decide]; rfl
theorem bF_4 {g : Nat} : bF W H C g ((4 : Int32).toNatClampNeg) = Int32.ofNat (cntB (fun j => isCB (C (pC W H C g j))) (bN W H C g)) := by rw [show (4 : Int32).toNatClampNeg = 4 by decide]; rfl
theorem bF_5 {g : Nat} : bF W H C g ((5 : Int32).toNatClampNeg) = Int32.ofNat (cntB (fun j => isRB (C (pC W H C g j))) (bN W H C g)) := by rw [show (5 : Int32).toNatClampNeg = 5 by decide]; rfl
theorem bF_6 {g : Nat} : bF W H C g ((6 : Int32).toNatClampNeg) = b2 (crB (pC W H C g) (bN W H C g)) := by rw [show (6 : Int32).toNatClampNeg = 6 by decide]; rfl
theorem CSt.bn98 (hc : CSt I J W H C w hs t T) {g : Nat} (hg : g < 2 * (W + H)) : bN W H C g ≤ 98 := by
  have hd := hc.dim
  have := bN_le (C := C) (by omega) (by omega) hg
  have := hc.w49
  omega
/-- a read of the walk's reading -/
theorem rd_at (hn : 59 ≤ nn) (hc : CSt I J W H C w hs t T) {g j : Nat} (hg : g < 2 * (W + H)) (hj : j < (rdg W H C g).length) {v : Int32} (hv : (rdg W H C g).getD j 0 = v) (h : ∀ I', QF I J I' J → EX (cal (d + 40)) k Q pc L (.int v :: r) u (hp (fz + 2) nn (lay Ln) I' J)) :
    CA (cal (d + 40)) 141 [.ref 1, .int (Int32.ofNat g), .int (Int32.ofNat j)] (hp (fz + 2) nn (lay Ln) I J) (fun w => KW (d + 40) k Q pc L r u w 141 (hp (fz + 2) nn (lay Ln) I J)) := by
  have hd := hc.dim
  have hL := rdg_len (C := C) (by omega) (by omega) hc.w49 hg
  refine lk_read hn hc (by rw [in_of hg (by omega), nn_of (by omega)]; rfl) fun I' q => ?_
  rw [oN_clamp (by omega), rdB_at hL hj, hv]
  exact h I' q
theorem rd_end (hn : 59 ≤ nn) (hc : CSt I J W H C w hs t T) {g j : Nat} (hg : g < 2 * (W + H)) (hj : j = (rdg W H C g).length) (h : ∀ I', QF I J I' J → EX (cal (d + 40)) k Q pc L (.int (-1) :: r) u (hp (fz + 2) nn (lay Ln) I' J)) :
    CA (cal (d + 40)) 141 [.ref 1, .int (Int32.ofNat g), .int (Int32.ofNat j)] (hp (fz + 2) nn (lay Ln) I J) (fun w => KW (d + 40) k Q pc L r u w 141 (hp (fz + 2) nn (lay Ln) I J)) := by
  have hd := hc.dim
  have hL := rdg_len (C := C) (by omega) (by omega) hc.w49 hg
  subst hj
  refine lk_read hn hc (by rw [in_of hg (by omega), nn_of (by omega)]; rfl) fun I' q => ?_
  rw [oN_clamp (by omega), rdB_end hL]
  exact h I' q
theorem ir_loop (hn : 59 ≤ nn) (hgw : GoodW w) {g : Nat} (hg : g < 2 * (W + H)) : ∀ n k I, k + n = bN W H C g → CSt I J W H C w hs t T →
    (∀ I', QF I J I' J → Q (.inl (some (.int 1))) (hp (fz + 2) nn (lay Ln) I' J)) → ∀ st, st = rdW (fun i => C (pC W H C g i)) k →
    EX (cal (d + 42)) 152 Q 10 [some (.ref 1), some (.int (Int32.ofNat g)), some (.int (Int32.ofNat st.1.length)), some (.int (b2 st.2)), some (.int 1), some (.int (Int32.ofNat k)), none, none, none] [] (0, 0) (hp (fz + 2) nn (lay Ln) I J) := by
  intro n
  induction n with
  | zero =>
    intro k I hk hc h st hst
    have hd := hc.dim
    have h98 := hc.bn98 hg
    have hk : k = bN W H C g := hk
    refine q_152_10 hn (lk_band (d := d + 2) hn hc (in_of hg (by omega)) (by decide) ?_)
    rw [oN_clamp (by omega), bF_3]
    refine q_152_18 hn (if_y ((oN_le (by omega) (by omega)).mpr (by omega)) (q_152_191 hn (if_n (by decide) ?_)))
    refine rd_end (d := d + 2) hn hc hg (by rw [hst, hk]; rfl) fun I1 q1 => q_152_202 hn (if_y rfl ?_)
    refine lm_words (d := d) hn (hc.q q1) hgw hg fun I2 q2 => q_152_211 hn (if_n (by decide) ?_)
    exact q_152_219 hn ⟨Or.inr rfl, h I2 (q1.tr q2)⟩
  | succ n ih =>
    intro k I hk hc h st hst
    have hd := hc.dim
    have h49 := hc.w49
    have h98 := hc.bn98 hg
    have hL := rdg_len (C := C) (by omega) (by omega) h49 hg
    have hkb : k < bN W H C g := by omega
    have hpc := pC_lt (C := C) (by omega) (by omega) hg hkb
    refine q_152_10 hn (lk_band (d := d + 2) hn hc (in_of hg (by omega)) (by decide) ?_)
    rw [oN_clamp (by omega), bF_3]
    refine q_152_18 hn (if_n (fun z => ?_) (if_n (by decide) (lk_cellOf (d := d + 2) hn hc (ip_of hg hkb (by omega) (by omega)) ?_)))
    · have := (oN_le (by omega) (by omega)).mp z
      omega
    rw [oN_clamp (by omega), oN_clamp (by omega)]
    refine q_152_33 hn (lk_cell (d := d + 2) hn hc (in_of hpc (by omega)) (by decide) ?_)
    rw [oN_clamp (by omega), cF_0]
    refine q_152_42 hn (lk_cell (d := d + 2) hn hc (in_of hpc (by omega)) (by decide) ?_)
    rw [oN_clamp (by omega), cF_4]
    have e1 : rdW (fun i => C (pC W H C g i)) (k + 1) = takeC st (C (pC W H C g k)) := by rw [hst]; rfl
    obtain ⟨m, hm⟩ := rdW_pre (fun i => C (pC W H C g i)) (k := k + 1) (n := bN W H C g) (by omega)
    have hm : rdg W H C g = (takeC st (C (pC W H C g k))).1 ++ m := by rw [← e1]; exact hm
    generalize C (pC W H C g k) = v at *
    have go : ∀ gp : Bool, gp = (st.2 || decide (v = 58)) → EX (cal (d + 42)) 152 Q 69 [some (.ref 1), some (.int (Int32.ofNat g)), some (.int (Int32.ofNat st.1.length)), none, some (.int 1), some (.int (Int32.ofNat k)), none, some (.int v), some (.int (f_X8_letterOf v))] [.int (b2 gp)] (0, 0) (hp (fz + 2) nn (lay Ln) I J) := by
      intro gp hgp
      cases hR : isRB v with
      | false =>
        refine q_152_69 hn (if_y (letO_N.mpr hR) (q_152_185 hn ?_))
        rw [oN_succ]
        rw [takeC_no hR, ← hgp] at e1
        exact ih (k + 1) I (by omega) hc h (st.1, gp) e1.symm
      | true =>
        rw [takeC_run hR] at e1 hm
        have hgp : gp = st.2 := by
          rw [hgp, decide_eq_false (fun z => by rw [z] at hR; exact absurd hR (by decide)), Bool.or_false]
        subst hgp
        obtain ⟨f1, f2, f3, f4⟩ := run_facts hm
        have hlen : (rdg W H C g).length = (runL st v).length + m.length := by rw [hm, List.length_append]
        refine q_152_69 hn (if_n (fun z => by rw [letO_N.mp z] at hR; cases hR) ?_)
        -- from 105 on
        have at105 : ∀ I', QF I J I' J → ∀ x l1 : Nat, l1 = st.1.length + (if st.2 = true ∧ st.1 ≠ [] then 1 else 0) → x = l1 → EX (cal (d + 42)) 152 Q 105 [some (.ref 1), some (.int (Int32.ofNat g)), some (.int (Int32.ofNat x)), none, some (.int 1), some (.int (Int32.ofNat k)), none, some (.int v), some (.int (f_X8_letterOf v))] [] (0, 0) (hp (fz + 2) nn (lay Ln) I' J) := by
          intro I' q' x l1 hl1 hx
          subst hx
          rw [← hl1] at f2 f3 f4
          have hx : x < (rdg W H C g).length := by rw [hlen, f4]; omega
          refine q_152_105 hn (if_n (by decide) (rd_at (d := d + 2) hn (hc.q q') hg hx f2 fun I1 q1 => q_152_118 hn (if_y rfl ?_)))
          have e0 : b2 false = 0 := rfl
          refine q_152_131 hn (if_c (fun z => ?_) (fun z => if_n (by decide) ?_))
          · have hS : ¬ isSB v = true := fun y => absurd ((lt97 hR).mpr y) (Int32.not_lt.mpr z)
            rw [if_neg hS] at f4
            refine q_152_185 hn ?_
            rw [oN_succ, oN_succ]
            have := ih (k + 1) I1 (by omega) (hc.q (q'.tr q1)) (fun I2 q2 => h I2 ((q'.tr q1).tr q2)) (runL st v, false) e1.symm
            rw [show (runL st v, false).1.length = x + 1 by show (runL st v).length = _; omega] at this
            exact this
          · have hS : isSB v = true := (lt97 hR).mp (Int32.not_le.mp z)
            rw [if_pos hS] at f4
            obtain ⟨g1, g2⟩ := f3 hS
            rw [oN_succ]
            refine rd_at (d := d + 2) hn (hc.q (q'.tr q1)) hg (by rw [hlen, f4]; omega) g1 fun I2 q2 => q_152_154 hn (if_y rfl ?_)
            rw [oN_succ]
            refine rd_at (d := d + 2) hn (hc.q ((q'.tr q1).tr q2)) hg (by rw [hlen, f4]; omega) g2 fun I3 q3 => q_152_167 hn (if_y rfl (q_152_180 hn (q_152_185 hn ?_)))
            have q4 := ((q'.tr q1).tr q2).tr q3
            have := ih (k + 1) I3 (by omega) (hc.q q4) (fun I5 q5 => h I5 (q4.tr q5)) (runL st v, false) e1.symm
            rw [show (runL st v, false).1.length = x + 3 by show (runL st v).length = _; omega] at this
            rw [oN_succ, show Int32.ofNat (x + 1) + 2 = Int32.ofNat (x + 3) from oN_add (x + 1) 2]
            exact this
        cases hg2 : st.2 with
        | false => exact if_y rfl (at105 I (QF.rf I J) _ _ rfl (by rw [if_neg (fun z => by rw [hg2] at z; cases z.1)]; rfl))
        | true =>
          refine if_n (by decide) (if_c (fun z => ?_) (fun z => ?_))
          · have z := (oN_le (b := 0) (by omega) (by decide)).mp z
            have hnil : st.1 = [] := List.length_eq_zero_iff.mp (by omega)
            exact at105 I (QF.rf I J) _ _ rfl (by rw [if_neg (fun y => y.2 hnil)]; rfl)
          · have hne : st.1 ≠ [] := fun y => z (by rw [y]; decide)
            refine rd_at (d := d + 2) hn hc hg (by rw [hlen, f4, if_pos ⟨hg2, hne⟩]; omega) (f1 ⟨hg2, hne⟩) fun I1 q1 => q_152_90 hn (if_y rfl (q_152_100 hn ?_))
            rw [oN_succ]
            exact at105 I1 q1 _ _ rfl (by rw [if_pos ⟨hg2, hne⟩])
    refine q_152_51 hn ?_
    cases hs2 : st.2 with
    | false =>
      refine if_y rfl (if_c (fun z => q_152_64 hn (go true ?_)) (fun z => go false ?_))
      · rw [hs2, decide_eq_true z]; rfl
      · rw [hs2, decide_eq_false z]; rfl
    | true => exact if_n (by decide) (q_152_64 hn (go true (by rw [hs2]; rfl)))
theorem lm_reading (hn : 59 ≤ nn) (hc : CSt I J W H C w hs t T) (hgw : GoodW w) {g : Nat} (hg : g < 2 * (W + H))
    (h : ∀ I', QF I J I' J → EX (cal (d + 43)) k Q pc L (.int 1 :: r) u (hp (fz + 2) nn (lay Ln) I' J)) :
    CA (cal (d + 43)) 152 [.ref 1, .int (Int32.ofNat g)] (hp (fz + 2) nn (lay Ln) I J) (fun w => KW (d + 43) k Q pc L r u w 152 (hp (fz + 2) nn (lay Ln) I J)) :=
  ⟨0, Or.inl rfl, call_in (d := d + 42) (Nat.le_of_ble_eq_true rfl) rfl rfl (q_152_0 hn (ir_loop (d := d) hn hgw hg (bN W H C g) 0 I (Nat.zero_add _) hc (fun I' q => kc_v rfl rfl (h I' q)) ([], false) rfl))⟩
end IRD
