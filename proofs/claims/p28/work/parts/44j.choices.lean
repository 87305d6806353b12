/-! ===== areChoices (by program, wip/p28/mk47.py) ===== -/
section CHO
variable {d k nn Ln fz : Nat} {Q : Post} {pc : Nat} {L : Lc} {r : List Value} {u : Nat × Nat} {I : HI} {J : HJ} {W H : Nat} {C : Cel} {w : Wds} {hs : List Sav} {t : Nat} {T : Nat → Int32} {was : Int64}
theorem co_in (hn : 59 ≤ nn) (hc : CSt I J W H C w hs t T) {g k : Nat} {cov : Int64} (hg : g < 2 * (W + H)) (hcr : crB (pC W H C g) (bN W H C g) = false) (hcov : ∀ c, bt (orB (pC W H C g) (bN W H C g) &&& rmask C (W * H)) c = true → bt cov c = false) (h : EX (cal (d + 41)) 155 Q 325 [some (.ref 1), some (.long was), none, some (.int (Int32.ofNat (sFd (runC W H C 50)))), none, some (.int (fewV W H C)), some (.long (cov ||| (orB (pC W H C g) (bN W H C g) &&& rmask C (W * H)))), none, some (.int (Int32.ofNat k)), some (.int 0), some (.int 1), some (.int (Int32.ofNat k)), none, some (.int (Int32.ofNat (cntB (fun j => isRB (C (pC W H C g j))) (bN W H C g)))), none, none, none] [] (0, 0) (hp (fz + 2) nn (lay Ln) I J)) : ∀ n i, i + n = bN W H C g →
    EX (cal (d + 41)) 155 Q 217 [some (.ref 1), some (.long was), none, some (.int (Int32.ofNat (sFd (runC W H C 50)))), none, some (.int (fewV W H C)), some (.long (cov ||| (orB (pC W H C g) i &&& rmask C (W * H)))), none, some (.int (Int32.ofNat k)), some (.int 0), some (.int 1), some (.int (Int32.ofNat k)), some (.int (Int32.ofNat g)), some (.int (Int32.ofNat (cntB (fun j => isRB (C (pC W H C g j))) i))), some (.int (Int32.ofNat i)), none, none] [] (0, 0) (hp (fz + 2) nn (lay Ln) I J) := by
  have hd := hc.dim
  have h49 := hc.w49
  have h98 := hc.bn98 hg
  intro n
  induction n with
  | zero =>
    intro i hi
    have hi : i = bN W H C g := hi
    subst hi
    refine q_155_217 hn (lk_band (d := d + 1) hn hc (in_of hg (by omega)) (by decide) ?_)
    rw [oN_clamp (by omega), bF_3]
    exact q_155_226 hn (if_y (Int32.le_refl _) h)
  | succ n ih =>
    intro i hi
    have hib : i < bN W H C g := by omega
    refine q_155_217 hn (lk_band (d := d + 1) hn hc (in_of hg (by omega)) (by decide) ?_)
    rw [oN_clamp (by omega), bF_3]
    refine q_155_226 hn (if_n (fun z => ?_) (if_n (by decide) (lk_cellOf (d := d + 1) hn hc (ip_of hg hib (by omega) (by omega)) ?_)))
    · have := (oN_le (by omega) (by omega)).mp z
      omega
    rw [oN_clamp (by omega), oN_clamp (by omega)]
    have hpc := pC_lt (C := C) (by omega) (by omega) hg hib
    refine q_155_242 hn (lk_cell (d := d + 1) hn hc (in_of hpc (by omega)) (by decide) ?_)
    rw [oN_clamp (by omega), cF_4]
    have e13 : cntB (fun j => isRB (C (pC W H C g j))) (i + 1) = cntB (fun j => isRB (C (pC W H C g j))) i + (if isRB (C (pC W H C g i)) then 1 else 0) := rfl
    obtain ⟨p, hpk⟩ : ∃ p, pC W H C g i = p := ⟨_, rfl⟩
    rw [hpk] at hpc e13
    rw [hpk]
    have hrm : bt (rmask C (W * H)) p = isRB (C p) := by rw [bt_rmask (by omega), decide_eq_true hpc]; rfl
    have hstep := seen_step (cov := cov) (rm := rmask C (W * H)) (f := pC W H C g) hpk (by omega) hrm
    have hlt : ∀ j, j < bN W H C g → pC W H C g j < 64 := fun j hj => by
      have := pC_lt (C := C) (by omega) (by omega) hg hj
      omega
    have at316 : ∀ y : Nat, y = (if isRB (C p) then 1 else 0) → EX (cal (d + 41)) 155 Q 316 [some (.ref 1), some (.long was), none, some (.int (Int32.ofNat (sFd (runC W H C 50)))), none, some (.int (fewV W H C)), some (.long (cov ||| (orB (pC W H C g) (i + 1) &&& rmask C (W * H)))), none, some (.int (Int32.ofNat k)), some (.int 0), some (.int 1), some (.int (Int32.ofNat k)), some (.int (Int32.ofNat g)), none, some (.int (Int32.ofNat i)), none, none] [.int (Int32.ofNat y), .int (Int32.ofNat (cntB (fun j => isRB (C (pC W H C g j))) i))] (0, 0) (hp (fz + 2) nn (lay Ln) I J) := by
      intro y hy
      refine q_155_316 hn ?_
      rw [oN_add, oN_succ, hy, ← e13]
      exact ih (i + 1) (by omega)
    have at279 : ∀ b, b = isRB (C p) → EX (cal (d + 41)) 155 Q 279 [some (.ref 1), some (.long was), none, some (.int (Int32.ofNat (sFd (runC W H C 50)))), none, some (.int (fewV W H C)), some (.long (cov ||| (orB (pC W H C g) i &&& rmask C (W * H)))), none, some (.int (Int32.ofNat k)), some (.int 0), none, some (.int (Int32.ofNat k)), some (.int (Int32.ofNat g)), some (.int (Int32.ofNat (cntB (fun j => isRB (C (pC W H C g j))) i))), some (.int (Int32.ofNat i)), some (.int (Int32.ofNat p)), some (.int (b2 b))] [] (0, 0) (hp (fz + 2) nn (lay Ln) I J) := by
      intro b hb
      refine q_155_279 hn (q_155_284 hn ?_)
      cases b with
      | false =>
        refine if_y rfl (q_155_301 hn (if_y rfl ?_))
        rw [← hb, if_neg (by decide)] at hstep
        rw [hstep]
        exact at316 0 (by rw [← hb]; rfl)
      | true =>
        refine if_n (by decide) (q_155_301 hn (if_n (by decide) ?_))
        rw [← hb, if_pos rfl] at hstep
        rw [hstep]
        exact at316 1 (by rw [← hb]; rfl)
    refine q_155_251 hn (if_c (fun z => ?_) (fun z => ?_))
    · exact q_155_260 hn (if_y rfl (at279 false (letO_N.mp z).symm))
    · have hr : isRB (C p) = true := by
        cases e : isRB (C p) with
        | true => rfl
        | false => exact absurd (letO_N.mpr e) z
      refine q_155_260 hn (if_n (by decide) (if_y ((sr_0 (by omega) _).mpr ?_) (at279 true hr.symm)))
      rw [bt_or, bt_and, hrm, hr, Bool.and_true, hcov p (by rw [bt_and, hrm, hr, Bool.and_true]; exact (bt_orB hlt p).mpr ⟨i, hib, hpk⟩), Bool.false_or]
      cases e : bt (orB (pC W H C g) i) p with
      | false => rfl
      | true =>
        obtain ⟨j, hj, hje⟩ := (bt_orB (fun j hj => hlt j (by omega)) p).mp e
        have := crB_iff.mpr ⟨j, i, hj, hib, hje.trans hpk.symm⟩
        rw [hcr] at this; cases this
theorem co_out (hn : 59 ≤ nn) : ∀ n k I J, k + n = (chP W H C).length → CSt I J W H C w hs t T → (∀ I' J', QF I J I' J' → EX (cal (d + 41)) 155 Q 351 [some (.ref 1), some (.long was), none, some (.int (Int32.ofNat (sFd (runC W H C 50)))), none, some (.int (fewV W H C)), some (.long (covL (mkS W H C) (chP W H C))), none, some (.int (Int32.ofNat (chP W H C).length)), some (.int 0), some (.int 1), none, none, none, none, none, none] [] (0, 0) (hp (fz + 2) nn (lay Ln) I' J')) →
    EX (cal (d + 41)) 155 Q 151 [some (.ref 1), some (.long was), none, some (.int (Int32.ofNat (sFd (runC W H C 50)))), none, some (.int (fewV W H C)), some (.long (covL (mkS W H C) ((chP W H C).take k))), none, some (.int (Int32.ofNat k)), some (.int 0), some (.int 1), some (.int (Int32.ofNat k)), none, none, none, none, none] [] (0, 0) (hp (fz + 2) nn (lay Ln) I J) := by
  intro n
  induction n with
  | zero =>
    intro k I J hk hc h
    have hk : k = (chP W H C).length := hk
    have h28 := chP_len (W := W) (H := H) (C := C)
    subst hk
    rw [List.take_length]
    refine q_155_151 hn (if_c (fun _ => h I J (QF.rf I J)) (fun _ => if_n (by decide) (lk_chosen (d := d + 1) hn hc (nn_of (by omega)) fun I1 J1 q1 => ?_)))
    rw [chP_val (by omega), if_neg (Nat.lt_irrefl _)]
    exact q_155_169 hn (if_y rfl (h I1 J1 q1))
  | succ n ih =>
    intro k I J hk hc h
    have hd := hc.dim
    have h28 := chP_len (W := W) (H := H) (C := C)
    have hkl : k < (chP W H C).length := by omega
    obtain ⟨m1, m2⟩ := chP_mk hkl
    obtain ⟨g, g1, g2, g3, g4, g5, g6⟩ := mkS_ne m1
    have hv : chV W H C (Int32.ofNat k) = Int32.ofNat g := by rw [chP_val (by omega), if_pos hkl, g2]
    refine q_155_151 hn (if_n (fun z => ?_) (if_n (by decide) (lk_chosen (d := d + 1) hn hc (nn_of (by omega)) fun I1 J1 q1 => ?_)))
    · have := (oN_le (a := 28) (by decide) (by omega)).mp z
      omega
    have c1 := hc.q q1
    rw [hv]
    refine q_155_169 hn (if_n (g_ne (by omega)) (lk_chosen (d := d + 1) hn c1 (nn_of (by omega)) fun I2 J2 q2 => ?_))
    have c2 := c1.q q2
    rw [hv]
    refine q_155_179 hn (lk_band (d := d + 1) hn c2 (in_of g3 (by omega)) (by decide) ?_)
    rw [oN_clamp (by omega), bF_0, (bFr_fst (by omega) (by omega) (by omega) g3).mpr g4]
    refine q_155_191 hn (if_y rfl (lk_band (d := d + 1) hn c2 (in_of g3 (by omega)) (by decide) ?_))
    rw [oN_clamp (by omega), bF_6, g5]
    refine q_155_204 hn (if_y rfl (q_155_212 hn ?_))
    have e0 : covL (mkS W H C) ((chP W H C).take k) = covL (mkS W H C) ((chP W H C).take k) ||| (orB (pC W H C g) 0 &&& rmask C (W * H)) := by
      apply bt_ext
      intro c _
      show _ = bt (_ ||| ((0 : Int64) &&& _)) c
      rw [bt_or, bt_and, bt_zero, Bool.false_and, Bool.or_false]
    have e1 : covL (mkS W H C) ((chP W H C).take (k + 1)) = covL (mkS W H C) ((chP W H C).take k) ||| (orB (pC W H C g) (bN W H C g) &&& rmask C (W * H)) := by
      rw [take_s hkl, covL_app, g6]
    have ch := g6
    rw [g6] at m1 m2
    rw [e0]
    refine co_in (d := d) (cov := covL (mkS W H C) ((chP W H C).take k)) hn c2 g3 g5 (fun c hcb => ?_) ?_ (bN W H C g) 0 (Nat.zero_add _)
    · have := congrArg (fun x => bt x c) m2
      replace this : bt ((orB (pC W H C g) (bN W H C g) &&& rmask C (W * H)) &&& covL (mkS W H C) ((chP W H C).take k)) c = bt 0 c := this
      rw [bt_and, hcb, bt_zero, Bool.true_and] at this
      exact this
    · rw [← e1]
      refine q_155_325 hn (if_n (by decide) (if_n (fun z => ?_) (q_155_340 hn ?_)))
      · obtain ⟨c, _, hcb⟩ := bt_ne.mp m1
        have h98 := c2.bn98 g3
        have hle := cntB_le (fun j => isRB (C (pC W H C g j))) (bN W H C g)
        have z := (oN_le (a := cntB (fun j => isRB (C (pC W H C g j))) (bN W H C g)) (b := 0) (by omega) (by decide)).mp z
        rw [bt_and] at hcb
        have hlt : ∀ j, j < bN W H C g → pC W H C g j < 64 := fun j hj => by
          have := pC_lt (C := C) (by omega) (by omega) g3 hj
          have := c2.w49
          omega
        have ⟨x1, x2⟩ := (Bool.and_eq_true_iff).mp hcb
        obtain ⟨j, hj, hje⟩ := (bt_orB hlt c).mp x1
        rw [bt_rmask (by have := c2.w49; omega)] at x2
        have : 0 < cntB (fun j => isRB (C (pC W H C g j))) (bN W H C g) := cntB_pos.mpr ⟨j, hj, by rw [hje]; exact ((Bool.and_eq_true_iff).mp x2).2⟩
        omega
      · rw [oN_succ]
        exact ih (k + 1) I2 J2 (by omega) c2 fun I3 J3 q3 => h I3 J3 ((q1.tr q2).tr q3)
theorem co_cell (hn : 59 ≤ nn) (hc : CSt I J W H C w hs t T) {x8 : Int32} (h : EX (cal (d + 41)) 155 Q 442 [some (.ref 1), some (.long was), none, some (.int (Int32.ofNat (sFd (runC W H C 50)))), none, some (.int (fewV W H C)), none, none, some (.int x8), some (.int (Int32.ofNat (cntB (fun c => isRB (C c)) (W * H)))), some (.int 1), none, none, none, none, none, none] [] (0, 0) (hp (fz + 2) nn (lay Ln) I J)) : ∀ n k, k + n = W * H →
    EX (cal (d + 41)) 155 Q 354 [some (.ref 1), some (.long was), none, some (.int (Int32.ofNat (sFd (runC W H C 50)))), none, some (.int (fewV W H C)), some (.long (covL (mkS W H C) (chP W H C))), none, some (.int x8), some (.int (Int32.ofNat (cntB (fun c => isRB (C c)) k))), some (.int 1), some (.int (Int32.ofNat k)), none, none, none, none, none] [] (0, 0) (hp (fz + 2) nn (lay Ln) I J) := by
  have hd := hc.dim
  have h49 := hc.w49
  intro n
  induction n with
  | zero =>
    intro k hk
    have hk : k = W * H := hk
    subst hk
    refine q_155_354 hn (lk_value (d := d + 1) hn hc (by decide) ?_)
    rw [nF_0]
    refine q_155_361 hn (lk_value (d := d + 1) hn hc (by decide) ?_)
    rw [nF_1]
    exact q_155_366 hn (if_y (by rw [oN_mul]; exact Int32.le_refl _) h)
  | succ n ih =>
    intro k hk
    have hkb : k < W * H := by omega
    refine q_155_354 hn (lk_value (d := d + 1) hn hc (by decide) ?_)
    rw [nF_0]
    refine q_155_361 hn (lk_value (d := d + 1) hn hc (by decide) ?_)
    rw [nF_1]
    refine q_155_366 hn (if_n (fun z => ?_) (if_n (by decide) (lk_cell (d := d + 1) hn hc (in_of hkb (by omega)) (by decide) ?_)))
    · rw [oN_mul] at z
      have := (oN_le (by omega) (by omega)).mp z
      omega
    rw [oN_clamp (by omega), cF_4]
    have e9 : cntB (fun c => isRB (C c)) (k + 1) = cntB (fun c => isRB (C c)) k + (if isRB (C k) then 1 else 0) := rfl
    have nx : EX (cal (d + 41)) 155 Q 429 [some (.ref 1), some (.long was), none, some (.int (Int32.ofNat (sFd (runC W H C 50)))), none, some (.int (fewV W H C)), some (.long (covL (mkS W H C) (chP W H C))), none, some (.int x8), some (.int (Int32.ofNat (cntB (fun c => isRB (C c)) (k + 1)))), none, some (.int (Int32.ofNat k)), none, none, none, none, none] [] (0, 0) (hp (fz + 2) nn (lay Ln) I J) := by
      refine q_155_429 hn (q_155_434 hn ?_)
      rw [oN_succ]
      exact ih (k + 1) (by omega)
    refine q_155_382 hn (if_c (fun z => ?_) (fun z => ?_))
    · have hr := letO_N.mp z
      refine q_155_391 hn (if_y rfl (q_155_405 hn (if_y rfl ?_)))
      rw [show (Int32.ofNat (cntB (fun c => isRB (C c)) k)) + 0 = (Int32.ofNat (cntB (fun c => isRB (C c)) (k + 1))) from by rw [e9, hr]; exact oN_add _ 0]
      exact nx
    · have hr : isRB (C k) = true := by
        cases e : isRB (C k) with
        | true => rfl
        | false => exact absurd (letO_N.mpr e) z
      refine q_155_391 hn (if_n (by decide) (q_155_405 hn (if_n (by decide) ?_)))
      rw [show (Int32.ofNat (cntB (fun c => isRB (C c)) k)) + 1 = (Int32.ofNat (cntB (fun c => isRB (C c)) (k + 1))) from by rw [e9, hr]; exact oN_add _ 1]
      refine if_c (fun _ => nx) (fun y => if_y ((sr_1 (by omega) _).mpr (chP_cov h49 (fun x => y (by rw [x]; rfl)) hkb hr)) nx)
theorem co_608 (hn : 59 ≤ nn) (hw : was = prV W H C w) (hc : CSt I J W H C w hs t T) (h : ∀ I', QF I J I' J → Q (.inl (some (.int 1))) (hp (fz + 1) nn (lay Ln) I' J)) :
    EX (cal (d + 41)) 155 Q 608 [some (.ref 1), some (.long was), none, none, none, none, none, none, none, none, some (.int 1), none, none, none, none, none, none] [] (0, 0) (hp (fz + 170) nn (lay Ln) I J) := by
  have h49 := hc.w49
  have ht := told_01 (C := C) (w := w) h49
  refine q_155_608 hn (if_n (by decide) (lm_told (d := d + 1) (fz := fz + 168) hn hc fun I1 q1 => q_155_617 hn (if_n ht.1 ?_)))
  have c1 := hc.q q1
  refine lm_told (d := d + 1) (fz := fz + 168) hn c1 fun I2 q2 => q_155_626 hn (if_n ht.2 ?_)
  have c2 := c1.q q2
  refine lm_print (d := d) hn c2 fun I3 q3 => q_155_635 hn (if_y (by rw [hw]; exact lg_self _) ?_)
  exact q_155_645 hn ⟨Or.inr rfl, h I3 ((q1.tr q2).tr q3)⟩
theorem co_tail (hn : 59 ≤ nn) (hw : was = prV W H C w) (hc : CSt I J W H C w hs t T) (h : ∀ I' J' hs', ClF I J I' J' → (hs' = hs ∨ hs' = hs.take 3) → CSt I' J' W H C w hs' t T → Q (.inl (some (.int 1))) (hp (fz + 1) nn (lay Ln) I' J')) :
    EX (cal (d + 41)) 155 Q 442 [some (.ref 1), some (.long was), none, some (.int (Int32.ofNat (sFd (runC W H C 50)))), none, some (.int (fewV W H C)), none, none, some (.int (Int32.ofNat (chP W H C).length)), some (.int (Int32.ofNat (cntB (fun c => isRB (C c)) (W * H)))), some (.int 1), none, none, none, none, none, none] [] (0, 0) (hp (fz + 339) nn (lay Ln) I J) := by
  have hd := hc.dim
  have h49 := hc.w49
  have h28 := chP_len (W := W) (H := H) (C := C)
  refine q_155_442 hn (if_n (by decide) (lk_value (d := d + 1) (fz := fz + 337) hn hc (by decide) ?_))
  rw [nF_2]
  have at468 : EX (cal (d + 41)) 155 Q 468 [some (.ref 1), some (.long was), none, none, none, none, none, none, none, none, none, none, none, none, none, none, none] [] (0, 0) (hp (fz + 339) nn (lay Ln) I J) := by
    refine q_155_468 hn (lk_nodes (d := d + 1) (fz := fz + 337) hn hc (by decide) fun I1 J1 q1 => ?_)
    have c1 := hc.q q1
    have hnv : ¬ 2000 < nodV W H C ((1 : Int32).toNatClampNeg) := by
      rw [show (1 : Int32).toNatClampNeg = 1 by decide]
      unfold nodV
      split
      · decide
      · intro z
        have hok := (runC_ok (W := W) (H := H) (C := C) (Nat.le_refl 1)).1
        have := (oN_lt (a := 2000) (b := sLk (runC W H C 1)) (by decide) (by omega)).mp z
        omega
    refine q_155_473 hn (if_n hnv (q_155_484 hn (lm_repair (d := d + 1) (fz := fz + 337) hn c1 fun I2 J2 f2 c2 => ?_)))
    have f12 := q1.cl.tr f2
    have hc35 : ∀ c, c < W * H → C c = 35 → 0 < cntB (fun c => decide (C c = 35)) (W * H) := fun c hc e => cntB_pos.mpr ⟨c, hc, decide_eq_true e⟩
    have hcl := cntB_le (fun c => decide (C c = 35)) (W * H)
    have rest : ∀ x11 : Int32, (x11 ≠ -1 → 0 < cntB (fun c => decide (C c = 35)) (W * H)) → (∀ I' , QF I2 J2 I' J2 → EX (cal (d + 41)) 155 Q 545 [some (.ref 1), some (.long was), none, none, none, none, none, none, none, none, none, some (.int x11), none, none, none, none, none] [.int 1] (0, 0) (hp (fz + 170) nn (lay Ln) I' J2)) → EX (cal (d + 41)) 155 Q 517 [some (.ref 1), some (.long was), none, none, none, none, none, none, none, none, none, some (.int x11), none, none, none, none, none] [] (0, 0) (hp (fz + 339) nn (lay Ln) I2 J2) := by
      intro x11 h11 hk
      refine q_155_517 hn (lk_value (d := d + 1) (fz := fz + 337) hn c2 (by decide) ?_)
      rw [nF_5]
      have at531 : EX (cal (d + 41)) 155 Q 531 [some (.ref 1), some (.long was), none, none, none, none, none, none, none, none, none, some (.int x11), none, none, none, none, none] [] (0, 0) (hp (fz + 339) nn (lay Ln) I2 J2) := by
        have e : fz + 339 = fz + 169 + 170 := by omega
        rw [e]
        exact q_155_531 hn (lm_print (d := d) hn c2 fun I3 q3 => q_155_535 hn (if_y (by rw [hw]; exact lg_self _) (hk I3 q3)))
      refine q_155_522 hn (if_c (fun _ => at531) (fun z => if_y ?_ at531))
      apply Classical.byContradiction
      intro y
      exact z ((oN_lt (a := 0) (by decide) (by omega)).mpr (h11 y))
    have fix : ∀ (c : Nat) (v : Int32), c < W * H → C c = 35 → isOB v = true → hasC W H C c v = true → ∀ I3, QF I2 J2 I3 J2 → EX (cal (d + 41)) 155 Q 577 [some (.ref 1), some (.long was), none, none, none, none, none, none, none, none, none, none, none, none, none, none, none] [.int v, .int (Int32.ofNat c), .ref 1] (0, 0) (hp (fz + 170) nn (lay Ln) I3 J2) := by
      intro c v hcb e35 hob hhc I3 q3
      have c3 := c2.q q3
      refine q_155_577 hn (lk_setCell (d := d + 1) (fz := fz + 168) hn c3 (in_of hcb (by omega)) hob fun I4 J4 f4 c4 => ?_)
      rw [oN_clamp (by omega)] at c4 ⊢
      rw [e35]
      refine q_155_580 hn (if_y rfl (lk_choices (d := d + 1) (fz := fz + 168) hn c4 (by decide) fun I5 J5 q5 => ?_))
      rw [show (1 : Int32).toNatClampNeg = 1 by decide, hasC_1 hhc]
      refine q_155_590 hn (if_y rfl (lk_undo (d := d + 1) (fz := fz + 168) (v := ((W, H, C), w)) (hs := hs.take 3) hn (c4.q q5) fun I6 J6 f6 c6 => ?_))
      refine q_155_598 hn (if_n (oN_nneg (by rw [List.length_take]; omega)) (q_155_606 hn ?_))
      exact co_608 (d := d) hn hw c6 fun I7 q7 => h I7 J6 (hs.take 3) ((((f12.tr q3.cl).tr f4).tr q5.cl).tr (f6.tr q7.cl)) (Or.inr rfl) (c6.q q7)
    refine q_155_490 hn (if_n (by decide) ?_)
    rcases repS_val (W := W) (H := H) (C := C) (W * H) h49 with e | ⟨c, x1, x2, x3⟩
    · rw [e]
      refine if_y rfl (rest (-1) (fun z => absurd rfl z) fun I3 q3 => ?_)
      refine q_155_545 hn (if_n (by decide) (if_y rfl ?_))
      exact co_608 (d := d) hn hw (c2.q q3) fun I4 q4 => h I4 J2 hs (f12.tr (q3.tr q4).cl) (Or.inl rfl) ((c2.q q3).q q4)
    · have key : ∀ j, j < 98 → (Int32.ofNat j / 2 = Int32.ofNat (j / 2) ∧ Int32.ofNat j ≠ -1) ∧ (Int32.ofNat j - Int32.ofNat j / 2 * 2 = 0 ↔ j % 2 = 0) := by decide
      rcases x3 with ⟨e, hh⟩ | ⟨e, hh⟩
      · have hk := key (2 * c) (by omega)
        rw [e]
        refine if_n hk.1.2 ?_
        rw [hk.1.1, show 2 * c / 2 = c by omega]
        refine lk_cell (d := d + 1) (fz := fz + 337) hn c2 (in_of x1 (by omega)) (by decide) ?_
        rw [oN_clamp (by omega), cF_0]
        refine q_155_512 hn (if_y x2 (rest _ (fun _ => hc35 c x1 x2) fun I3 q3 => ?_))
        refine q_155_545 hn (if_n (by decide) (if_n hk.1.2 (if_y (hk.2.mpr (by omega)) ?_)))
        rw [hk.1.1, show 2 * c / 2 = c by omega]
        exact fix c 47 x1 x2 (by decide) hh I3 q3
      · have hk := key (2 * c + 1) (by omega)
        rw [e]
        refine if_n hk.1.2 ?_
        rw [hk.1.1, show (2 * c + 1) / 2 = c by omega]
        refine lk_cell (d := d + 1) (fz := fz + 337) hn c2 (in_of x1 (by omega)) (by decide) ?_
        rw [oN_clamp (by omega), cF_0]
        refine q_155_512 hn (if_y x2 (rest _ (fun _ => hc35 c x1 x2) fun I3 q3 => ?_))
        refine q_155_545 hn (if_n (by decide) (if_n hk.1.2 (if_n (fun z => by have := hk.2.mp z; omega) ?_)))
        rw [hk.1.1, show (2 * c + 1) / 2 = c by omega]
        exact fix c 92 x1 x2 (by decide) hh I3 q3
  refine q_155_454 hn (if_y rfl (if_c (fun _ => at468) (fun z => if_n (fun y => ?_) at468)))
  have hne : sFd (runC W H C 50) ≠ 0 := fun x => z (by rw [x]; rfl)
  have hf := (chP_few hne).1
  unfold fewV at y
  rw [if_neg hne] at y
  have := (oN_lt (by omega) (by omega)).mp y
  omega
theorem co_all (hn : 59 ≤ nn) (hc : CSt I J W H C w hs t T) (h : ∀ I' J' hs', ClF I J I' J' → (hs' = hs ∨ hs' = hs.take 3) → CSt I' J' W H C w hs' t T → Q (.inl (some (.int 1))) (hp (fz + 1) nn (lay Ln) I' J')) :
    EX (cal (d + 41)) 155 Q 0 [some (.ref 1), none, none, none, none, none, none, none, none, none, none, none, none, none, none, none, none] [] (0, 0) (hp (fz + 508) nn (lay Ln) I J) := by
  have hd := hc.dim
  have h49 := hc.w49
  have e : fz + 508 = fz + 338 + 170 := by omega
  rw [e]
  refine q_155_0 hn (lm_print (d := d) hn hc fun I1 q1 => ?_)
  have c1 := hc.q q1
  rw [show fz + 338 + 1 = fz + 337 + 2 by omega]
  refine q_155_4 hn (lk_choices (d := d + 1) hn c1 (by decide) fun I2 J2 q2 => ?_)
  have c2 := c1.q q2
  refine q_155_11 hn (lk_nodes (d := d + 1) hn c2 (by decide) fun I3 J3 q3 => ?_)
  have c3 := c2.q q3
  refine q_155_18 hn (lm_fewest (d := d + 1) hn c3 fun I4 J4 q4 => ?_)
  have c4 := c3.q q4
  rw [show (50 : Int32).toNatClampNeg = 50 by decide]
  have hok := runC_ok (W := W) (H := H) (C := C) (most := 50) (by decide)
  have hlk := run_lk (W := W) (H := H) (C := C) (m := 50)
  have hfd := hok.2.1
  have hl2 := hok.1
  have hsm := hok.2.2.1
  refine q_155_24 hn (if_n (oN_nneg (by omega)) (if_n (fun z => ?_) (lk_choices (d := d + 1) hn c4 (by decide) fun I5 J5 q5 => ?_)))
  · have := (oN_lt (a := 50) (by decide) (by omega)).mp z
    omega
  have c5 := c4.q q5
  rw [show (1 : Int32).toNatClampNeg = 1 by decide, fd1]
  have q15 := (((q1.tr q2).tr q3).tr q4).tr q5
  have at146 : ∀ I' J', QF I J I' J' → EX (cal (d + 41)) 155 Q 146 [some (.ref 1), some (.long (prV W H C w)), none, some (.int (Int32.ofNat (sFd (runC W H C 50)))), none, some (.int (fewV W H C)), some (.long 0), none, some (.int 0), some (.int 0), none, none, none, none, none, none, none] [.int 1] (0, 0) (hp (fz + 337 + 2) nn (lay Ln) I' J') := by
    intro I6 J6 q6
    refine q_155_146 hn (co_out (d := d) hn (chP W H C).length 0 I6 J6 (Nat.zero_add _) (hc.q q6) fun I7 J7 q7 => q_155_351 hn ?_)
    have q67 := q6.tr q7
    refine co_cell (d := d) hn (hc.q q67) ?_ (W * H) 0 (Nat.zero_add _)
    exact co_tail (d := d) (fz := fz) hn rfl (hc.q q67) fun I8 J8 hs' f8 h8 c8 => h I8 J8 hs' (q67.cl.tr f8) h8 c8
  have at123 : ∀ I' J', QF I J I' J' → EX (cal (d + 41)) 155 Q 123 [some (.ref 1), some (.long (prV W H C w)), none, some (.int (Int32.ofNat (sFd (runC W H C 50)))), none, some (.int (fewV W H C)), some (.long 0), none, some (.int 0), some (.int 0), none, none, none, none, none, none, none] [] (0, 0) (hp (fz + 337 + 2) nn (lay Ln) I' J') := by
    intro I6 J6 q6
    refine q_155_123 hn (lk_choices (d := d + 1) hn (hc.q q6) (by decide) fun I7 J7 q7 => ?_)
    rw [show (3 : Int32).toNatClampNeg = 3 by decide, run_fd (by decide : 1 ≤ 3) (by decide)]
    refine q_155_128 hn (if_c (fun z => ?_) (fun z => ?_))
    · have z := (oN_le (a := 3) (b := sFd (runC W H C 50)) (by decide) (by omega)).mp z
      rw [Nat.min_eq_left z]
      exact q_155_138 hn (if_y rfl (at146 I7 J7 (q6.tr q7)))
    · have z : ¬ 3 ≤ sFd (runC W H C 50) := fun y => z ((oN_le (a := 3) (b := sFd (runC W H C 50)) (by decide) (by omega)).mpr y)
      rw [Nat.min_eq_right (by omega)]
      exact q_155_138 hn (if_y rfl (at146 I7 J7 (q6.tr q7)))
  have at102 : ∀ I' J', QF I J I' J' → EX (cal (d + 41)) 155 Q 102 [some (.ref 1), some (.long (prV W H C w)), none, some (.int (Int32.ofNat (sFd (runC W H C 50)))), some (.int (nodV W H C 50)), some (.int (fewV W H C)), some (.long 0), none, some (.int 0), some (.int 0), none, none, none, none, none, none, none] [] (0, 0) (hp (fz + 337 + 2) nn (lay Ln) I' J') := by
    intro I6 J6 q6
    refine q_155_102 hn ?_
    have hnd : nodV W H C 50 = -2000 ∨ nodV W H C 50 = Int32.ofNat (sLk (runC W H C 50)) := by
      unfold nodV
      split
      · exact Or.inl rfl
      · exact Or.inr rfl
    rcases hnd with y | y
    · rw [y]; exact if_y rfl (at123 I6 J6 q6)
    · rw [y]
      refine if_c (fun _ => at123 I6 J6 q6) (fun _ => if_n (fun z => ?_) (if_n (fun z => ?_) (at123 I6 J6 q6)))
      · have := (oN_le (b := 0) (by omega) (by decide)).mp z
        omega
      · have := (oN_lt (a := 2000) (by decide) (by omega)).mp z
        omega
  refine q_155_50 hn (if_c (fun z => ?_) (fun z => ?_))
  · have z := (oN_le (b := 0) (by omega) (by decide)).mp z
    have z0 : sFd (runC W H C 50) = 0 := by omega
    rw [show min 1 (sFd (runC W H C 50)) = 0 by omega]
    have ef : fewV W H C = -1 := by unfold fewV; rw [if_pos z0]
    refine q_155_59 hn (if_y rfl (if_y (by rw [z0]; rfl) (if_y ef (lk_chosen (d := d + 1) hn c5 (by decide) fun I6 J6 q6 => ?_))))
    rw [show chV W H C 0 = -1 from by unfold chV; rw [fd1, if_pos (by omega)]]
    exact q_155_77 hn (if_y rfl (at102 I6 J6 (q15.tr q6)))
  · have z0 : sFd (runC W H C 50) ≠ 0 := fun y => z (by rw [y]; exact Int32.le_refl _)
    rw [show min 1 (sFd (runC W H C 50)) = 1 by omega]
    have ef : fewV W H C = Int32.ofNat (sSm (runC W H C 50)) := by unfold fewV; rw [if_neg z0]
    refine q_155_59 hn (if_y rfl (if_n (fun y => z0 ((oN_eq (b := 0) (by omega) (by decide)).mp y)) (if_n (by rw [ef]; exact oN_nneg (by omega)) (if_c (fun _ => at102 I5 J5 q15) (fun y => ?_)))))
    refine lk_value (d := d + 1) hn c5 (by decide) ?_
    rw [nF_2]
    have y0 : sSm (runC W H C 50) = 0 := by
      apply Classical.byContradiction
      intro x
      exact y (by rw [ef]; exact (oN_lt (a := 0) (by decide) (by omega)).mpr (by omega))
    rw [(runes0 h49).mp ((chP_few z0).2 y0)]
    exact q_155_99 hn (if_y rfl (at102 I5 J5 q15))
theorem lm_choicesOk (hn : 59 ≤ nn) (hc : CSt I J W H C w hs t T) (h : ∀ I' J' hs', ClF I J I' J' → (hs' = hs ∨ hs' = hs.take 3) → CSt I' J' W H C w hs' t T → EX (cal (d + 42)) k Q pc L (.int 1 :: r) u (hp (fz + 1) nn (lay Ln) I' J')) :
    CA (cal (d + 42)) 155 [.ref 1] (hp (fz + 508) nn (lay Ln) I J) (fun w => KW (d + 42) k Q pc L r u w 155 (hp (fz + 508) nn (lay Ln) I J)) :=
  ⟨507, Or.inr (show 507 < fz + 508 by omega), call_in (d := d + 41) (Nat.le_of_ble_eq_true rfl) rfl rfl (co_all (d := d) hn hc fun I' J' hs' f h1 c => kw_va rfl rfl (by omega) (by omega) (h I' J' hs' f h1 c))⟩
end CHO
