/-! ===== areBands: along a band (by program, wip/p28/mk45.py) ===== -/
section ABI
variable {d nn Ln fz : Nat} {Q : Post} {I : HI} {J : HJ} {W H : Nat} {C : Cel} {w : Wds} {hs : List Sav} {t : Nat} {T : Nat → Int32} {a3 a4 : Int32}
theorem ab_in (hn : 60 ≤ nn) {g : Nat} (hg : g < 2 * (W + H)) : ∀ n k I, k + n = bN W H C g → CSt I J W H C w hs t T → TM W H C I g k →
    (∀ I', RQ I I' → TM W H C I' g (bN W H C g) → EX (cal (d + 43)) 151 Q 532 [some (.ref 1), some (.int (Int32.ofNat (2 * (W + H)))), some (.int (Int32.ofNat W)), some (.int a3), some (.int a4), some (.ref 59), some (.int 1), some (.int (Int32.ofNat g)), none, none, some (.int (Int32.ofNat (cntB (fun j => isCB (C (pC W H C g j))) (bN W H C g)))), some (.int (Int32.ofNat (cntB (fun j => isRB (C (pC W H C g j))) (bN W H C g)))), none, none, some (.int (b2 (crB (pC W H C g) (bN W H C g)))), none, none, none, none, none] [] (0, 0) (hp (fz + 2) nn (lay Ln) I' J)) →
    EX (cal (d + 43)) 151 Q 297 [some (.ref 1), some (.int (Int32.ofNat (2 * (W + H)))), some (.int (Int32.ofNat W)), some (.int a3), some (.int a4), some (.ref 59), some (.int 1), some (.int (Int32.ofNat g)), some (.int (bE W H C g)), some (.int (Int32.ofNat (bN W H C g))), some (.int (Int32.ofNat (cntB (fun j => isCB (C (pC W H C g j))) k))), some (.int (Int32.ofNat (cntB (fun j => isRB (C (pC W H C g j))) k))), some (.long (orB (pC W H C g) k)), none, some (.int (b2 (crB (pC W H C g) k))), some (.int (b2 (fstB W H C g))), some (.int (Int32.ofNat k)), none, none, none] [] (0, 0) (hp (fz + 2) nn (lay Ln) I J) := by
  intro n
  induction n with
  | zero =>
    intro k I hk hc ht h
    have hd := hc.dim
    have h98 := hc.bn98 hg
    have hk : k = bN W H C g := hk
    subst hk
    exact q_151_297 hn (if_y (Int32.le_refl _) (h I (RQ.rf I) ht))
  | succ n ih =>
    intro k I hk hc ht h
    have hd := hc.dim
    have h49 := hc.w49
    have h98 := hc.bn98 hg
    have hn9 : 59 ≤ nn := by omega
    have hkb : k < bN W H C g := by omega
    have hpc := pC_lt (C := C) (by omega) (by omega) hg hkb
    refine q_151_297 hn (if_n (fun z => ?_) (if_n (by decide) (lk_cellOf (d := d + 3) hn9 hc (ip_of hg hkb (by omega) (by omega)) ?_)))
    · have := (oN_le (by omega) (by omega)).mp z
      omega
    rw [oN_clamp (by omega), oN_clamp (by omega)]
    refine q_151_317 hn (lk_cell (d := d + 3) hn9 hc (in_of hpc (by omega)) (by decide) ?_)
    rw [oN_clamp (by omega), cF_0]
    obtain ⟨p, hpk⟩ : ∃ p, pC W H C g k = p := ⟨_, rfl⟩
    obtain ⟨v, hv⟩ : ∃ v, C p = v := ⟨_, rfl⟩
    rw [hpk] at hpc
    have ef : ∀ i, i < k → pC W H C g i < 64 := fun i hi => by
      have := pC_lt (C := C) (by omega) (by omega) hg (i := i) (by omega)
      omega
    have e12 : orB (pC W H C g) k ||| ((1 : Int64) <<< ((Int32.ofNat p).toInt64 &&& 63)) = orB (pC W H C g) (k + 1) := by
      show _ = orB (pC W H C g) k ||| bitL (pC W H C g k)
      rw [hpk]; rfl
    have e10 : cntB (fun j => isCB (C (pC W H C g j))) (k + 1) = cntB (fun j => isCB (C (pC W H C g j))) k + (if isCB v then 1 else 0) := by
      show cntB _ k + (if isCB (C (pC W H C g k)) then 1 else 0) = _
      rw [hpk, hv]
    have e11 : cntB (fun j => isRB (C (pC W H C g j))) (k + 1) = cntB (fun j => isRB (C (pC W H C g j))) k + (if isRB v then 1 else 0) := by
      show cntB _ k + (if isRB (C (pC W H C g k)) then 1 else 0) = _
      rw [hpk, hv]
    have e14 := cr_bt (f := pC W H C g) (n := k) ef
    rw [hpk] at e14
    rw [hpk, hv]
    have hbrk := brk (C := C) (by omega) (by omega) (by omega) hg hkb
    rw [hpk, hv] at hbrk
    have fin : EX (cal (d + 43)) 151 Q 524 [some (.ref 1), some (.int (Int32.ofNat (2 * (W + H)))), some (.int (Int32.ofNat W)), some (.int a3), some (.int a4), some (.ref 59), none, some (.int (Int32.ofNat g)), some (.int (bE W H C g)), some (.int (Int32.ofNat (bN W H C g))), some (.int (Int32.ofNat (cntB (fun j => isCB (C (pC W H C g j))) (k + 1)))), some (.int (Int32.ofNat (cntB (fun j => isRB (C (pC W H C g j))) (k + 1)))), some (.long (orB (pC W H C g) (k + 1))), none, some (.int (b2 (crB (pC W H C g) (k + 1)))), some (.int (b2 (fstB W H C g))), some (.int (Int32.ofNat k)), none, none, none] [.int 1] (0, 0) (hp (fz + 2) nn (lay Ln) (w2 I 59 p (I 59 p + b2 (fstB W H C g))) J) := by
      refine q_151_524 hn ?_
      rw [oN_succ]
      exact ih (k + 1) _ (by omega) (hc.r w2_rq) (ht.step hpk (by omega)) fun I' q t' => h I' (w2_rq.tr q) t'
    have at473 : EX (cal (d + 43)) 151 Q 473 [some (.ref 1), some (.int (Int32.ofNat (2 * (W + H)))), some (.int (Int32.ofNat W)), some (.int a3), some (.int a4), some (.ref 59), none, some (.int (Int32.ofNat g)), some (.int (bE W H C g)), some (.int (Int32.ofNat (bN W H C g))), some (.int (Int32.ofNat (cntB (fun j => isCB (C (pC W H C g j))) (k + 1)))), some (.int (Int32.ofNat (cntB (fun j => isRB (C (pC W H C g j))) (k + 1)))), some (.long (orB (pC W H C g) (k + 1))), none, some (.int (b2 (crB (pC W H C g) (k + 1)))), some (.int (b2 (fstB W H C g))), some (.int (Int32.ofNat k)), some (.int (Int32.ofNat p)), some (.int v), none] [] (0, 0) (hp (fz + 2) nn (lay Ln) (w2 I 59 p (I 59 p + b2 (fstB W H C g))) J) := by
      have at495 : EX (cal (d + 43)) 151 Q 495 [some (.ref 1), some (.int (Int32.ofNat (2 * (W + H)))), some (.int (Int32.ofNat W)), some (.int a3), some (.int a4), some (.ref 59), none, some (.int (Int32.ofNat g)), some (.int (bE W H C g)), some (.int (Int32.ofNat (bN W H C g))), some (.int (Int32.ofNat (cntB (fun j => isCB (C (pC W H C g j))) (k + 1)))), some (.int (Int32.ofNat (cntB (fun j => isRB (C (pC W H C g j))) (k + 1)))), some (.long (orB (pC W H C g) (k + 1))), none, some (.int (b2 (crB (pC W H C g) (k + 1)))), some (.int (b2 (fstB W H C g))), some (.int (Int32.ofNat k)), some (.int (Int32.ofNat p)), none, none] [] (0, 0) (hp (fz + 2) nn (lay Ln) (w2 I 59 p (I 59 p + b2 (fstB W H C g))) J) := by
        refine q_151_495 hn (if_c (fun _ => q_151_519 hn fin) (fun z => ?_))
        rcases bE_cases (C := C) (by omega) (by omega) hg with ⟨y, -⟩ | ⟨q, hq1, -, hq2, -⟩
        · exact absurd y z
        · obtain ⟨r1, r2, r3, r4⟩ := rev_all (C := C) (by omega) (by omega) (by omega) hg hq1 (by omega)
          have hbp := bN_pos (W := W) (H := H) (C := C) (g := g)
          rw [hq1, show (Int32.ofNat (bN W H C g) - 1) - Int32.ofNat k = Int32.ofNat (bN W H C g - 1 - k) from (by rw [show Int32.ofNat (bN W H C g) - 1 = Int32.ofNat (bN W H C g - 1) from oN_sub hbp, oN_sub (by omega)])]
          refine lk_cellOf (d := d + 3) hn9 (hc.r w2_rq) (ip_of r1 (by rw [r3]; omega) (by omega) (by rw [r3]; omega)) ?_
          rw [oN_clamp (by omega), oN_clamp (by omega), r4 _ (by omega), show bN W H C g - 1 - (bN W H C g - 1 - k) = k by omega, hpk]
          rw [hq1] at fin
          exact q_151_514 hn (if_y rfl (q_151_519 hn fin))
      refine q_151_473 hn (if_c (fun z => ?_) (fun _ => at495))
      obtain ⟨y1, y2⟩ := hbrk.mp z
      have hbp := bN_pos (W := W) (H := H) (C := C) (g := g)
      exact if_y (by rw [y1]; exact (oN_sub hbp).symm) (if_y y2 at495)
    have at446 : ∀ x19 : Int32, (x19 = 1 ∨ x19 = -1 ∨ x19 = Int32.ofNat W ∨ x19 = -Int32.ofNat W) → ∀ x10 x11 : Nat, x10 = cntB (fun j => isCB (C (pC W H C g j))) (k + 1) → x11 = cntB (fun j => isRB (C (pC W H C g j))) (k + 1) → EX (cal (d + 43)) 151 Q 446 [some (.ref 1), some (.int (Int32.ofNat (2 * (W + H)))), some (.int (Int32.ofNat W)), some (.int a3), some (.int a4), some (.ref 59), none, some (.int (Int32.ofNat g)), some (.int (bE W H C g)), some (.int (Int32.ofNat (bN W H C g))), some (.int (Int32.ofNat x10)), some (.int (Int32.ofNat x11)), some (.long (orB (pC W H C g) (k + 1))), none, some (.int (b2 (crB (pC W H C g) (k + 1)))), some (.int (b2 (fstB W H C g))), some (.int (Int32.ofNat k)), some (.int (Int32.ofNat p)), some (.int v), some (.int x19)] [.int (b2 (fstB W H C g)), .int (I 59 p), .int (Int32.ofNat p), .ref 59] (0, 0) (hp (fz + 2) nn (lay Ln) I J) := by
      intro x19 hx x10 x11 h10 h11
      subst h10
      subst h11
      refine q_151_446 hn ⟨oN_vin (by omega) (by decide), ?_⟩
      rw [oN_clamp (by omega)]
      by_cases y1 : x19 = 1
      · exact if_y y1 at473
      refine if_n y1 ?_
      by_cases y2 : x19 = -1
      · exact if_y y2 at473
      refine if_n y2 ?_
      by_cases y3 : x19 = Int32.ofNat W
      · exact if_y y3 at473
      refine if_n y3 ?_
      have y4 : x19 = -Int32.ofNat W := by rcases hx with z | z | z | z <;> first | exact absurd z y1 | exact absurd z y2 | exact absurd z y3 | exact z
      exact if_y y4 at473
    have at427 : ∀ x19 : Int32, (x19 = 1 ∨ x19 = -1 ∨ x19 = Int32.ofNat W ∨ x19 = -Int32.ofNat W) → ∀ x10 y : Nat, x10 = cntB (fun j => isCB (C (pC W H C g j))) (k + 1) → y = (if isRB v then 1 else 0) → EX (cal (d + 43)) 151 Q 427 [some (.ref 1), some (.int (Int32.ofNat (2 * (W + H)))), some (.int (Int32.ofNat W)), some (.int a3), some (.int a4), some (.ref 59), none, some (.int (Int32.ofNat g)), some (.int (bE W H C g)), some (.int (Int32.ofNat (bN W H C g))), some (.int (Int32.ofNat x10)), none, some (.long (orB (pC W H C g) (k + 1))), none, some (.int (b2 (crB (pC W H C g) (k + 1)))), some (.int (b2 (fstB W H C g))), some (.int (Int32.ofNat k)), some (.int (Int32.ofNat p)), some (.int v), some (.int x19)] [.int (Int32.ofNat y), .int (Int32.ofNat (cntB (fun j => isRB (C (pC W H C g j))) k))] (0, 0) (hp (fz + 2) nn (lay Ln) I J) := by
      intro x19 hx x10 y h10 hy
      refine q_151_427 hn ⟨oN_vin (by omega) (by decide), ?_⟩
      rw [oN_clamp (by omega), oN_add]
      have go := at446 x19 hx x10 (cntB (fun j => isRB (C (pC W H C g j))) k + y) h10 (by rw [e11, hy])
      cases hf : fstB W H C g with
      | false => rw [hf] at go; exact if_y rfl go
      | true => rw [hf] at go; exact if_n (by decide) go
    have at406 : ∀ x19 : Int32, (x19 = 1 ∨ x19 = -1 ∨ x19 = Int32.ofNat W ∨ x19 = -Int32.ofNat W) → ∀ y : Nat, y = (if isCB v then 1 else 0) → EX (cal (d + 43)) 151 Q 406 [some (.ref 1), some (.int (Int32.ofNat (2 * (W + H)))), some (.int (Int32.ofNat W)), some (.int a3), some (.int a4), some (.ref 59), none, some (.int (Int32.ofNat g)), some (.int (bE W H C g)), some (.int (Int32.ofNat (bN W H C g))), none, some (.int (Int32.ofNat (cntB (fun j => isRB (C (pC W H C g j))) k))), some (.long (orB (pC W H C g) (k + 1))), none, some (.int (b2 (crB (pC W H C g) (k + 1)))), some (.int (b2 (fstB W H C g))), some (.int (Int32.ofNat k)), some (.int (Int32.ofNat p)), some (.int v), some (.int x19)] [.int (Int32.ofNat y), .int (Int32.ofNat (cntB (fun j => isCB (C (pC W H C g j))) k))] (0, 0) (hp (fz + 2) nn (lay Ln) I J) := by
      intro x19 hx y hy
      refine q_151_406 hn (lk_cell (d := d + 3) hn9 hc (in_of hpc (by omega)) (by decide) ?_)
      rw [oN_clamp (by omega), cF_4, hv, oN_add]
      refine q_151_418 hn (if_c (fun z => ?_) (fun z => ?_))
      · exact at427 x19 hx _ 0 (by rw [e10, hy]) (by rw [letO_N.mp z]; rfl)
      · have : isRB v = true := by
          cases e : isRB v with
          | true => rfl
          | false => exact absurd (letO_N.mpr e) z
        exact at427 x19 hx _ 1 (by rw [e10, hy]) (by rw [this]; rfl)
    have at374 : ∀ x19 : Int32, (x19 = 1 ∨ x19 = -1 ∨ x19 = Int32.ofNat W ∨ x19 = -Int32.ofNat W) → ∀ b, b = crB (pC W H C g) (k + 1) → EX (cal (d + 43)) 151 Q 374 [some (.ref 1), some (.int (Int32.ofNat (2 * (W + H)))), some (.int (Int32.ofNat W)), some (.int a3), some (.int a4), some (.ref 59), none, some (.int (Int32.ofNat g)), some (.int (bE W H C g)), some (.int (Int32.ofNat (bN W H C g))), some (.int (Int32.ofNat (cntB (fun j => isCB (C (pC W H C g j))) k))), some (.int (Int32.ofNat (cntB (fun j => isRB (C (pC W H C g j))) k))), some (.long (orB (pC W H C g) k)), none, none, some (.int (b2 (fstB W H C g))), some (.int (Int32.ofNat k)), some (.int (Int32.ofNat p)), some (.int v), some (.int x19)] [.int (b2 b)] (0, 0) (hp (fz + 2) nn (lay Ln) I J) := by
      intro x19 hx b hb
      refine q_151_374 hn ?_
      rw [e12, hb]
      refine if_c (fun z => q_151_401 hn (at406 x19 hx 1 ?_)) (fun z => if_c (fun y => q_151_401 hn (at406 x19 hx 1 ?_)) (fun y => at406 x19 hx 0 ?_))
      · rw [z]; rfl
      · rw [y]; rfl
      · unfold isCB; rw [decide_eq_false z, decide_eq_false y]; rfl
    have at350 : ∀ x19 : Int32, (x19 = 1 ∨ x19 = -1 ∨ x19 = Int32.ofNat W ∨ x19 = -Int32.ofNat W) → EX (cal (d + 43)) 151 Q 350 [some (.ref 1), some (.int (Int32.ofNat (2 * (W + H)))), some (.int (Int32.ofNat W)), some (.int a3), some (.int a4), some (.ref 59), none, some (.int (Int32.ofNat g)), some (.int (bE W H C g)), some (.int (Int32.ofNat (bN W H C g))), some (.int (Int32.ofNat (cntB (fun j => isCB (C (pC W H C g j))) k))), some (.int (Int32.ofNat (cntB (fun j => isRB (C (pC W H C g j))) k))), some (.long (orB (pC W H C g) k)), none, some (.int (b2 (crB (pC W H C g) k))), some (.int (b2 (fstB W H C g))), some (.int (Int32.ofNat k)), some (.int (Int32.ofNat p)), some (.int v), none] [.int x19] (0, 0) (hp (fz + 2) nn (lay Ln) I J) := by
      intro x19 hx
      refine q_151_350 hn ?_
      cases hcr : crB (pC W H C g) k with
      | true => exact if_n (by decide) (q_151_369 hn (at374 x19 hx true (by rw [e14, hcr]; rfl)))
      | false =>
        refine if_y rfl (if_c (fun z => ?_) (fun z => ?_))
        · exact q_151_369 hn (at374 x19 hx true (by rw [e14, (sr_1 (by omega) _).mp z, Bool.or_true]))
        · refine at374 x19 hx false ?_
          rw [e14, hcr]
          cases hb : bt (orB (pC W H C g) k) p with
          | false => rfl
          | true => exact absurd ((sr_1 (by omega) _).mpr hb) z
    refine q_151_326 hn (if_c (fun z => at350 1 (Or.inl rfl)) (fun z => ?_))
    have hk0 : k ≠ 0 := fun y => z (by rw [y]; rfl)
    rw [show Int32.ofNat k - 1 = Int32.ofNat (k - 1) from oN_sub (a := k) (b := 1) (by omega)]
    refine lk_cellOf (d := d + 3) hn9 hc (ip_of hg (by omega) (by omega) (by omega)) ?_
    rw [oN_clamp (by omega), oN_clamp (by omega)]
    refine q_151_349 hn (at350 _ (near4 ?_))
    have := pC_near (C := C) (by omega) (by omega) hg (i := k - 1) (by omega)
    rw [show k - 1 + 1 = k by omega, hpk] at this
    exact this
end ABI
