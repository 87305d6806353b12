/-! ===== the constructors (by program, wip/p28/t9.py) ===== -/
theorem in_46_2 {d Ln : Nat} {K : Post} {ly : Nat → SH} {I : HI} {J : HJ} (hl : ∀ b, 2 ≤ b → b < 5 → ly b = lay Ln b) (hZ : Zr 3 I J) (h : K (.inl none) (hp 0 5 ly (stI I 2) J)) : cal (d + 3) 46 [.ref 2] (hp 0 3 (upS ly 2 (15, 0, [0, 0, 2, 2])) I J) K := by
  refine call_in (Nat.le_of_ble_eq_true rfl) rfl rfl ?_
  refine e_ldRn (cx cd_46_0 rfl rfl) rfl ?_
  refine e_obj (cx cd_46_1 rfl rfl) (Nat.le_of_ble_eq_true rfl) ?_
  refine e_ldRn (cx cd_46_4 rfl rfl) rfl ?_
  refine e_bipush (cx cd_46_5 rfl rfl) bp_49 ?_
  refine e_narr (z := 49) (kd := 0) (cs := []) (p1 := 1) (p2 := 49) (mm := 4) (cx cd_46_7 rfl rfl) ((hl 3 (Nat.le_of_ble_eq_true rfl) (Nat.le_of_ble_eq_true rfl)).trans rfl) rfl (Nat.le_of_ble_eq_true rfl) rfl (by decide) (Nat.le_of_ble_eq_true rfl) rfl rfl (Nat.le_of_ble_eq_true rfl) (Nat.le_of_ble_eq_true rfl) rfl (hZ.mono (by decide) (fun _ _ => rfl)) ?_
  refine e_pfR (ly' := (upS ly 2 (15, 0, [0, 0, 6, 2]))) (cs := [0, 0, 2, 2]) (cs' := [0, 0, 6, 2]) (cx cd_46_9 rfl rfl) (Nat.le_of_ble_eq_true rfl) rfl rfl (Nat.le_of_ble_eq_true rfl) rfl rfl rfl (fun b hb => by simp only [upS, nbeq hb, cond_false]) ?_
  refine e_ldRn (cx cd_46_12 rfl rfl) rfl ?_
  refine e_bipush (cx cd_46_13 rfl rfl) bp_49 ?_
  refine e_narr (z := 49) (kd := 0) (cs := []) (p1 := 2) (p2 := 98) (mm := 5) (cx cd_46_15 rfl rfl) ((hl 4 (Nat.le_of_ble_eq_true rfl) (Nat.le_of_ble_eq_true rfl)).trans rfl) rfl (Nat.le_of_ble_eq_true rfl) rfl (by decide) (Nat.le_of_ble_eq_true rfl) rfl rfl (Nat.le_of_ble_eq_true rfl) (Nat.le_of_ble_eq_true rfl) rfl (hZ.mono (by decide) (fun _ _ => rfl)) ?_
  refine e_pfR (ly' := (upS ly 2 (15, 0, [0, 0, 6, 7]))) (cs := [0, 0, 6, 2]) (cs' := [0, 0, 6, 7]) (cx cd_46_17 rfl rfl) (Nat.le_of_ble_eq_true rfl) rfl rfl (Nat.le_of_ble_eq_true rfl) rfl rfl rfl (fun b hb => by simp only [upS, nbeq hb, cond_false]) ?_
  refine e_ldRn (cx cd_46_20 rfl rfl) rfl ?_
  refine e_iconst (cx cd_46_21 rfl rfl) ic_4 ?_
  refine e_iconst (cx cd_46_22 rfl rfl) ic_4 ?_
  refine e_call (vs := [.ref 2, .int 4, .int 4]) (cx cd_46_23 rfl rfl) inv_v (by decide) rfl rfl (Nat.le_of_ble_eq_true rfl) (Nat.le_of_ble_eq_true rfl) (Nat.le_of_ble_eq_true rfl) (rc_v (by decide) (Nat.le_of_ble_eq_true rfl) rfl) ?_
  refine g_clear (e1 := 7) (Nat.le_of_ble_eq_true rfl) (hs := rfl) (hs2 := (hl 3 (Nat.le_of_ble_eq_true rfl) (Nat.le_of_ble_eq_true rfl)).trans rfl) ?_
  refine kc_0 rfl rfl ?_
  refine e_vret (cx cd_46_26 rfl rfl) rfl ?_
  rw [upS_id (ly := ly) (a := 2) (s := (15, 0, [0, 0, 6, 7])) ((hl 2 (Nat.le_of_ble_eq_true rfl) (Nat.le_of_ble_eq_true rfl)).trans rfl)]
  exact h
theorem in_46_11 {d Ln : Nat} {K : Post} {ly : Nat → SH} {I : HI} {J : HJ} (hl : ∀ b, 11 ≤ b → b < 14 → ly b = lay Ln b) (hZ : Zr 12 I J) (h : K (.inl none) (hp 0 14 ly (stI I 11) J)) : cal (d + 3) 46 [.ref 11] (hp 0 12 (upS ly 11 (15, 0, [0, 0, 2, 2])) I J) K := by
  refine call_in (Nat.le_of_ble_eq_true rfl) rfl rfl ?_
  refine e_ldRn (cx cd_46_0 rfl rfl) rfl ?_
  refine e_obj (cx cd_46_1 rfl rfl) (Nat.le_of_ble_eq_true rfl) ?_
  refine e_ldRn (cx cd_46_4 rfl rfl) rfl ?_
  refine e_bipush (cx cd_46_5 rfl rfl) bp_49 ?_
  refine e_narr (z := 49) (kd := 0) (cs := []) (p1 := 1) (p2 := 49) (mm := 13) (cx cd_46_7 rfl rfl) ((hl 12 (Nat.le_of_ble_eq_true rfl) (Nat.le_of_ble_eq_true rfl)).trans rfl) rfl (Nat.le_of_ble_eq_true rfl) rfl (by decide) (Nat.le_of_ble_eq_true rfl) rfl rfl (Nat.le_of_ble_eq_true rfl) (Nat.le_of_ble_eq_true rfl) rfl (hZ.mono (by decide) (fun _ _ => rfl)) ?_
  refine e_pfR (ly' := (upS ly 11 (15, 0, [0, 0, 15, 2]))) (cs := [0, 0, 2, 2]) (cs' := [0, 0, 15, 2]) (cx cd_46_9 rfl rfl) (Nat.le_of_ble_eq_true rfl) rfl rfl (Nat.le_of_ble_eq_true rfl) rfl rfl rfl (fun b hb => by simp only [upS, nbeq hb, cond_false]) ?_
  refine e_ldRn (cx cd_46_12 rfl rfl) rfl ?_
  refine e_bipush (cx cd_46_13 rfl rfl) bp_49 ?_
  refine e_narr (z := 49) (kd := 0) (cs := []) (p1 := 2) (p2 := 98) (mm := 14) (cx cd_46_15 rfl rfl) ((hl 13 (Nat.le_of_ble_eq_true rfl) (Nat.le_of_ble_eq_true rfl)).trans rfl) rfl (Nat.le_of_ble_eq_true rfl) rfl (by decide) (Nat.le_of_ble_eq_true rfl) rfl rfl (Nat.le_of_ble_eq_true rfl) (Nat.le_of_ble_eq_true rfl) rfl (hZ.mono (by decide) (fun _ _ => rfl)) ?_
  refine e_pfR (ly' := (upS ly 11 (15, 0, [0, 0, 15, 16]))) (cs := [0, 0, 15, 2]) (cs' := [0, 0, 15, 16]) (cx cd_46_17 rfl rfl) (Nat.le_of_ble_eq_true rfl) rfl rfl (Nat.le_of_ble_eq_true rfl) rfl rfl rfl (fun b hb => by simp only [upS, nbeq hb, cond_false]) ?_
  refine e_ldRn (cx cd_46_20 rfl rfl) rfl ?_
  refine e_iconst (cx cd_46_21 rfl rfl) ic_4 ?_
  refine e_iconst (cx cd_46_22 rfl rfl) ic_4 ?_
  refine e_call (vs := [.ref 11, .int 4, .int 4]) (cx cd_46_23 rfl rfl) inv_v (by decide) rfl rfl (Nat.le_of_ble_eq_true rfl) (Nat.le_of_ble_eq_true rfl) (Nat.le_of_ble_eq_true rfl) (rc_v (by decide) (Nat.le_of_ble_eq_true rfl) rfl) ?_
  refine g_clear (e1 := 16) (Nat.le_of_ble_eq_true rfl) (hs := rfl) (hs2 := (hl 12 (Nat.le_of_ble_eq_true rfl) (Nat.le_of_ble_eq_true rfl)).trans rfl) ?_
  refine kc_0 rfl rfl ?_
  refine e_vret (cx cd_46_26 rfl rfl) rfl ?_
  rw [upS_id (ly := ly) (a := 11) (s := (15, 0, [0, 0, 15, 16])) ((hl 11 (Nat.le_of_ble_eq_true rfl) (Nat.le_of_ble_eq_true rfl)).trans rfl)]
  exact h
theorem in_46_17 {d Ln : Nat} {K : Post} {ly : Nat → SH} {I : HI} {J : HJ} (hl : ∀ b, 17 ≤ b → b < 20 → ly b = lay Ln b) (hZ : Zr 18 I J) (h : K (.inl none) (hp 0 20 ly (stI I 17) J)) : cal (d + 3) 46 [.ref 17] (hp 0 18 (upS ly 17 (15, 0, [0, 0, 2, 2])) I J) K := by
  refine call_in (Nat.le_of_ble_eq_true rfl) rfl rfl ?_
  refine e_ldRn (cx cd_46_0 rfl rfl) rfl ?_
  refine e_obj (cx cd_46_1 rfl rfl) (Nat.le_of_ble_eq_true rfl) ?_
  refine e_ldRn (cx cd_46_4 rfl rfl) rfl ?_
  refine e_bipush (cx cd_46_5 rfl rfl) bp_49 ?_
  refine e_narr (z := 49) (kd := 0) (cs := []) (p1 := 1) (p2 := 49) (mm := 19) (cx cd_46_7 rfl rfl) ((hl 18 (Nat.le_of_ble_eq_true rfl) (Nat.le_of_ble_eq_true rfl)).trans rfl) rfl (Nat.le_of_ble_eq_true rfl) rfl (by decide) (Nat.le_of_ble_eq_true rfl) rfl rfl (Nat.le_of_ble_eq_true rfl) (Nat.le_of_ble_eq_true rfl) rfl (hZ.mono (by decide) (fun _ _ => rfl)) ?_
  refine e_pfR (ly' := (upS ly 17 (15, 0, [0, 0, 21, 2]))) (cs := [0, 0, 2, 2]) (cs' := [0, 0, 21, 2]) (cx cd_46_9 rfl rfl) (Nat.le_of_ble_eq_true rfl) rfl rfl (Nat.le_of_ble_eq_true rfl) rfl rfl rfl (fun b hb => by simp only [upS, nbeq hb, cond_false]) ?_
  refine e_ldRn (cx cd_46_12 rfl rfl) rfl ?_
  refine e_bipush (cx cd_46_13 rfl rfl) bp_49 ?_
  refine e_narr (z := 49) (kd := 0) (cs := []) (p1 := 2) (p2 := 98) (mm := 20) (cx cd_46_15 rfl rfl) ((hl 19 (Nat.le_of_ble_eq_true rfl) (Nat.le_of_ble_eq_true rfl)).trans rfl) rfl (Nat.le_of_ble_eq_true rfl) rfl (by decide) (Nat.le_of_ble_eq_true rfl) rfl rfl (Nat.le_of_ble_eq_true rfl) (Nat.le_of_ble_eq_true rfl) rfl (hZ.mono (by decide) (fun _ _ => rfl)) ?_
  refine e_pfR (ly' := (upS ly 17 (15, 0, [0, 0, 21, 22]))) (cs := [0, 0, 21, 2]) (cs' := [0, 0, 21, 22]) (cx cd_46_17 rfl rfl) (Nat.le_of_ble_eq_true rfl) rfl rfl (Nat.le_of_ble_eq_true rfl) rfl rfl rfl (fun b hb => by simp only [upS, nbeq hb, cond_false]) ?_
  refine e_ldRn (cx cd_46_20 rfl rfl) rfl ?_
  refine e_iconst (cx cd_46_21 rfl rfl) ic_4 ?_
  refine e_iconst (cx cd_46_22 rfl rfl) ic_4 ?_
  refine e_call (vs := [.ref 17, .int 4, .int 4]) (cx cd_46_23 rfl rfl) inv_v (by decide) rfl rfl (Nat.le_of_ble_eq_true rfl) (Nat.le_of_ble_eq_true rfl) (Nat.le_of_ble_eq_true rfl) (rc_v (by decide) (Nat.le_of_ble_eq_true rfl) rfl) ?_
  refine g_clear (e1 := 22) (Nat.le_of_ble_eq_true rfl) (hs := rfl) (hs2 := (hl 18 (Nat.le_of_ble_eq_true rfl) (Nat.le_of_ble_eq_true rfl)).trans rfl) ?_
  refine kc_0 rfl rfl ?_
  refine e_vret (cx cd_46_26 rfl rfl) rfl ?_
  rw [upS_id (ly := ly) (a := 17) (s := (15, 0, [0, 0, 21, 22])) ((hl 17 (Nat.le_of_ble_eq_true rfl) (Nat.le_of_ble_eq_true rfl)).trans rfl)]
  exact h
theorem in_46_23 {d Ln : Nat} {K : Post} {ly : Nat → SH} {I : HI} {J : HJ} (hl : ∀ b, 23 ≤ b → b < 26 → ly b = lay Ln b) (hZ : Zr 24 I J) (h : K (.inl none) (hp 0 26 ly (stI I 23) J)) : cal (d + 3) 46 [.ref 23] (hp 0 24 (upS ly 23 (15, 0, [0, 0, 2, 2])) I J) K := by
  refine call_in (Nat.le_of_ble_eq_true rfl) rfl rfl ?_
  refine e_ldRn (cx cd_46_0 rfl rfl) rfl ?_
  refine e_obj (cx cd_46_1 rfl rfl) (Nat.le_of_ble_eq_true rfl) ?_
  refine e_ldRn (cx cd_46_4 rfl rfl) rfl ?_
  refine e_bipush (cx cd_46_5 rfl rfl) bp_49 ?_
  refine e_narr (z := 49) (kd := 0) (cs := []) (p1 := 1) (p2 := 49) (mm := 25) (cx cd_46_7 rfl rfl) ((hl 24 (Nat.le_of_ble_eq_true rfl) (Nat.le_of_ble_eq_true rfl)).trans rfl) rfl (Nat.le_of_ble_eq_true rfl) rfl (by decide) (Nat.le_of_ble_eq_true rfl) rfl rfl (Nat.le_of_ble_eq_true rfl) (Nat.le_of_ble_eq_true rfl) rfl (hZ.mono (by decide) (fun _ _ => rfl)) ?_
  refine e_pfR (ly' := (upS ly 23 (15, 0, [0, 0, 27, 2]))) (cs := [0, 0, 2, 2]) (cs' := [0, 0, 27, 2]) (cx cd_46_9 rfl rfl) (Nat.le_of_ble_eq_true rfl) rfl rfl (Nat.le_of_ble_eq_true rfl) rfl rfl rfl (fun b hb => by simp only [upS, nbeq hb, cond_false]) ?_
  refine e_ldRn (cx cd_46_12 rfl rfl) rfl ?_
  refine e_bipush (cx cd_46_13 rfl rfl) bp_49 ?_
  refine e_narr (z := 49) (kd := 0) (cs := []) (p1 := 2) (p2 := 98) (mm := 26) (cx cd_46_15 rfl rfl) ((hl 25 (Nat.le_of_ble_eq_true rfl) (Nat.le_of_ble_eq_true rfl)).trans rfl) rfl (Nat.le_of_ble_eq_true rfl) rfl (by decide) (Nat.le_of_ble_eq_true rfl) rfl rfl (Nat.le_of_ble_eq_true rfl) (Nat.le_of_ble_eq_true rfl) rfl (hZ.mono (by decide) (fun _ _ => rfl)) ?_
  refine e_pfR (ly' := (upS ly 23 (15, 0, [0, 0, 27, 28]))) (cs := [0, 0, 27, 2]) (cs' := [0, 0, 27, 28]) (cx cd_46_17 rfl rfl) (Nat.le_of_ble_eq_true rfl) rfl rfl (Nat.le_of_ble_eq_true rfl) rfl rfl rfl (fun b hb => by simp only [upS, nbeq hb, cond_false]) ?_
  refine e_ldRn (cx cd_46_20 rfl rfl) rfl ?_
  refine e_iconst (cx cd_46_21 rfl rfl) ic_4 ?_
  refine e_iconst (cx cd_46_22 rfl rfl) ic_4 ?_
  refine e_call (vs := [.ref 23, .int 4, .int 4]) (cx cd_46_23 rfl rfl) inv_v (by decide) rfl rfl (Nat.le_of_ble_eq_true rfl) (Nat.le_of_ble_eq_true rfl) (Nat.le_of_ble_eq_true rfl) (rc_v (by decide) (Nat.le_of_ble_eq_true rfl) rfl) ?_
  refine g_clear (e1 := 28) (Nat.le_of_ble_eq_true rfl) (hs := rfl) (hs2 := (hl 24 (Nat.le_of_ble_eq_true rfl) (Nat.le_of_ble_eq_true rfl)).trans rfl) ?_
  refine kc_0 rfl rfl ?_
  refine e_vret (cx cd_46_26 rfl rfl) rfl ?_
  rw [upS_id (ly := ly) (a := 23) (s := (15, 0, [0, 0, 27, 28])) ((hl 23 (Nat.le_of_ble_eq_true rfl) (Nat.le_of_ble_eq_true rfl)).trans rfl)]
  exact h
theorem in_46_29 {d Ln : Nat} {K : Post} {ly : Nat → SH} {I : HI} {J : HJ} (hl : ∀ b, 29 ≤ b → b < 32 → ly b = lay Ln b) (hZ : Zr 30 I J) (h : K (.inl none) (hp 0 32 ly (stI I 29) J)) : cal (d + 3) 46 [.ref 29] (hp 0 30 (upS ly 29 (15, 0, [0, 0, 2, 2])) I J) K := by
  refine call_in (Nat.le_of_ble_eq_true rfl) rfl rfl ?_
  refine e_ldRn (cx cd_46_0 rfl rfl) rfl ?_
  refine e_obj (cx cd_46_1 rfl rfl) (Nat.le_of_ble_eq_true rfl) ?_
  refine e_ldRn (cx cd_46_4 rfl rfl) rfl ?_
  refine e_bipush (cx cd_46_5 rfl rfl) bp_49 ?_
  refine e_narr (z := 49) (kd := 0) (cs := []) (p1 := 1) (p2 := 49) (mm := 31) (cx cd_46_7 rfl rfl) ((hl 30 (Nat.le_of_ble_eq_true rfl) (Nat.le_of_ble_eq_true rfl)).trans rfl) rfl (Nat.le_of_ble_eq_true rfl) rfl (by decide) (Nat.le_of_ble_eq_true rfl) rfl rfl (Nat.le_of_ble_eq_true rfl) (Nat.le_of_ble_eq_true rfl) rfl (hZ.mono (by decide) (fun _ _ => rfl)) ?_
  refine e_pfR (ly' := (upS ly 29 (15, 0, [0, 0, 33, 2]))) (cs := [0, 0, 2, 2]) (cs' := [0, 0, 33, 2]) (cx cd_46_9 rfl rfl) (Nat.le_of_ble_eq_true rfl) rfl rfl (Nat.le_of_ble_eq_true rfl) rfl rfl rfl (fun b hb => by simp only [upS, nbeq hb, cond_false]) ?_
  refine e_ldRn (cx cd_46_12 rfl rfl) rfl ?_
  refine e_bipush (cx cd_46_13 rfl rfl) bp_49 ?_
  refine e_narr (z := 49) (kd := 0) (cs := []) (p1 := 2) (p2 := 98) (mm := 32) (cx cd_46_15 rfl rfl) ((hl 31 (Nat.le_of_ble_eq_true rfl) (Nat.le_of_ble_eq_true rfl)).trans rfl) rfl (Nat.le_of_ble_eq_true rfl) rfl (by decide) (Nat.le_of_ble_eq_true rfl) rfl rfl (Nat.le_of_ble_eq_true rfl) (Nat.le_of_ble_eq_true rfl) rfl (hZ.mono (by decide) (fun _ _ => rfl)) ?_
  refine e_pfR (ly' := (upS ly 29 (15, 0, [0, 0, 33, 34]))) (cs := [0, 0, 33, 2]) (cs' := [0, 0, 33, 34]) (cx cd_46_17 rfl rfl) (Nat.le_of_ble_eq_true rfl) rfl rfl (Nat.le_of_ble_eq_true rfl) rfl rfl rfl (fun b hb => by simp only [upS, nbeq hb, cond_false]) ?_
  refine e_ldRn (cx cd_46_20 rfl rfl) rfl ?_
  refine e_iconst (cx cd_46_21 rfl rfl) ic_4 ?_
  refine e_iconst (cx cd_46_22 rfl rfl) ic_4 ?_
  refine e_call (vs := [.ref 29, .int 4, .int 4]) (cx cd_46_23 rfl rfl) inv_v (by decide) rfl rfl (Nat.le_of_ble_eq_true rfl) (Nat.le_of_ble_eq_true rfl) (Nat.le_of_ble_eq_true rfl) (rc_v (by decide) (Nat.le_of_ble_eq_true rfl) rfl) ?_
  refine g_clear (e1 := 34) (Nat.le_of_ble_eq_true rfl) (hs := rfl) (hs2 := (hl 30 (Nat.le_of_ble_eq_true rfl) (Nat.le_of_ble_eq_true rfl)).trans rfl) ?_
  refine kc_0 rfl rfl ?_
  refine e_vret (cx cd_46_26 rfl rfl) rfl ?_
  rw [upS_id (ly := ly) (a := 29) (s := (15, 0, [0, 0, 33, 34])) ((hl 29 (Nat.le_of_ble_eq_true rfl) (Nat.le_of_ble_eq_true rfl)).trans rfl)]
  exact h
theorem in_69_5 {d Ln : Nat} {K : Post} {ly : Nat → SH} {I : HI} {J : HJ} (hl : ∀ b, 5 ≤ b → b < 8 → ly b = lay Ln b) (hZ : Zr 6 I J) (h : K (.inl none) (hp 0 8 ly I J)) : cal (d + 1) 69 [.ref 5] (hp 0 6 (upS ly 5 (17, 0, [0, 2, 2])) I J) K := by
  refine call_in (Nat.le_of_ble_eq_true rfl) rfl rfl ?_
  refine e_ldRn (cx cd_69_0 rfl rfl) rfl ?_
  refine e_obj (cx cd_69_1 rfl rfl) (Nat.le_of_ble_eq_true rfl) ?_
  refine e_ldRn (cx cd_69_4 rfl rfl) rfl ?_
  refine e_bipush (cx cd_69_5 rfl rfl) bp_8 ?_
  refine e_narr (z := 8) (kd := 0) (cs := []) (p1 := 1) (p2 := 8) (mm := 7) (cx cd_69_7 rfl rfl) ((hl 6 (Nat.le_of_ble_eq_true rfl) (Nat.le_of_ble_eq_true rfl)).trans rfl) rfl (Nat.le_of_ble_eq_true rfl) rfl (by decide) (Nat.le_of_ble_eq_true rfl) rfl rfl (Nat.le_of_ble_eq_true rfl) (Nat.le_of_ble_eq_true rfl) rfl (hZ.mono (by decide) (fun _ _ => rfl)) ?_
  refine e_pfR (ly' := (upS ly 5 (17, 0, [0, 9, 2]))) (cs := [0, 2, 2]) (cs' := [0, 9, 2]) (cx cd_69_9 rfl rfl) (Nat.le_of_ble_eq_true rfl) rfl rfl (Nat.le_of_ble_eq_true rfl) rfl rfl rfl (fun b hb => by simp only [upS, nbeq hb, cond_false]) ?_
  refine e_ldRn (cx cd_69_12 rfl rfl) rfl ?_
  refine e_bipush (cx cd_69_13 rfl rfl) bp_64 ?_
  refine e_narr (z := 64) (kd := 0) (cs := []) (p1 := 2) (p2 := 72) (mm := 8) (cx cd_69_15 rfl rfl) ((hl 7 (Nat.le_of_ble_eq_true rfl) (Nat.le_of_ble_eq_true rfl)).trans rfl) rfl (Nat.le_of_ble_eq_true rfl) rfl (by decide) (Nat.le_of_ble_eq_true rfl) rfl rfl (Nat.le_of_ble_eq_true rfl) (Nat.le_of_ble_eq_true rfl) rfl (hZ.mono (by decide) (fun _ _ => rfl)) ?_
  refine e_pfR (ly' := (upS ly 5 (17, 0, [0, 9, 10]))) (cs := [0, 9, 2]) (cs' := [0, 9, 10]) (cx cd_69_17 rfl rfl) (Nat.le_of_ble_eq_true rfl) rfl rfl (Nat.le_of_ble_eq_true rfl) rfl rfl rfl (fun b hb => by simp only [upS, nbeq hb, cond_false]) ?_
  refine e_vret (cx cd_69_20 rfl rfl) rfl ?_
  rw [upS_id (ly := ly) (a := 5) (s := (17, 0, [0, 9, 10])) ((hl 5 (Nat.le_of_ble_eq_true rfl) (Nat.le_of_ble_eq_true rfl)).trans rfl)]
  exact h
theorem in_69_14 {d Ln : Nat} {K : Post} {ly : Nat → SH} {I : HI} {J : HJ} (hl : ∀ b, 14 ≤ b → b < 17 → ly b = lay Ln b) (hZ : Zr 15 I J) (h : K (.inl none) (hp 0 17 ly I J)) : cal (d + 1) 69 [.ref 14] (hp 0 15 (upS ly 14 (17, 0, [0, 2, 2])) I J) K := by
  refine call_in (Nat.le_of_ble_eq_true rfl) rfl rfl ?_
  refine e_ldRn (cx cd_69_0 rfl rfl) rfl ?_
  refine e_obj (cx cd_69_1 rfl rfl) (Nat.le_of_ble_eq_true rfl) ?_
  refine e_ldRn (cx cd_69_4 rfl rfl) rfl ?_
  refine e_bipush (cx cd_69_5 rfl rfl) bp_8 ?_
  refine e_narr (z := 8) (kd := 0) (cs := []) (p1 := 1) (p2 := 8) (mm := 16) (cx cd_69_7 rfl rfl) ((hl 15 (Nat.le_of_ble_eq_true rfl) (Nat.le_of_ble_eq_true rfl)).trans rfl) rfl (Nat.le_of_ble_eq_true rfl) rfl (by decide) (Nat.le_of_ble_eq_true rfl) rfl rfl (Nat.le_of_ble_eq_true rfl) (Nat.le_of_ble_eq_true rfl) rfl (hZ.mono (by decide) (fun _ _ => rfl)) ?_
  refine e_pfR (ly' := (upS ly 14 (17, 0, [0, 18, 2]))) (cs := [0, 2, 2]) (cs' := [0, 18, 2]) (cx cd_69_9 rfl rfl) (Nat.le_of_ble_eq_true rfl) rfl rfl (Nat.le_of_ble_eq_true rfl) rfl rfl rfl (fun b hb => by simp only [upS, nbeq hb, cond_false]) ?_
  refine e_ldRn (cx cd_69_12 rfl rfl) rfl ?_
  refine e_bipush (cx cd_69_13 rfl rfl) bp_64 ?_
  refine e_narr (z := 64) (kd := 0) (cs := []) (p1 := 2) (p2 := 72) (mm := 17) (cx cd_69_15 rfl rfl) ((hl 16 (Nat.le_of_ble_eq_true rfl) (Nat.le_of_ble_eq_true rfl)).trans rfl) rfl (Nat.le_of_ble_eq_true rfl) rfl (by decide) (Nat.le_of_ble_eq_true rfl) rfl rfl (Nat.le_of_ble_eq_true rfl) (Nat.le_of_ble_eq_true rfl) rfl (hZ.mono (by decide) (fun _ _ => rfl)) ?_
  refine e_pfR (ly' := (upS ly 14 (17, 0, [0, 18, 19]))) (cs := [0, 18, 2]) (cs' := [0, 18, 19]) (cx cd_69_17 rfl rfl) (Nat.le_of_ble_eq_true rfl) rfl rfl (Nat.le_of_ble_eq_true rfl) rfl rfl rfl (fun b hb => by simp only [upS, nbeq hb, cond_false]) ?_
  refine e_vret (cx cd_69_20 rfl rfl) rfl ?_
  rw [upS_id (ly := ly) (a := 14) (s := (17, 0, [0, 18, 19])) ((hl 14 (Nat.le_of_ble_eq_true rfl) (Nat.le_of_ble_eq_true rfl)).trans rfl)]
  exact h
theorem in_69_20 {d Ln : Nat} {K : Post} {ly : Nat → SH} {I : HI} {J : HJ} (hl : ∀ b, 20 ≤ b → b < 23 → ly b = lay Ln b) (hZ : Zr 21 I J) (h : K (.inl none) (hp 0 23 ly I J)) : cal (d + 1) 69 [.ref 20] (hp 0 21 (upS ly 20 (17, 0, [0, 2, 2])) I J) K := by
  refine call_in (Nat.le_of_ble_eq_true rfl) rfl rfl ?_
  refine e_ldRn (cx cd_69_0 rfl rfl) rfl ?_
  refine e_obj (cx cd_69_1 rfl rfl) (Nat.le_of_ble_eq_true rfl) ?_
  refine e_ldRn (cx cd_69_4 rfl rfl) rfl ?_
  refine e_bipush (cx cd_69_5 rfl rfl) bp_8 ?_
  refine e_narr (z := 8) (kd := 0) (cs := []) (p1 := 1) (p2 := 8) (mm := 22) (cx cd_69_7 rfl rfl) ((hl 21 (Nat.le_of_ble_eq_true rfl) (Nat.le_of_ble_eq_true rfl)).trans rfl) rfl (Nat.le_of_ble_eq_true rfl) rfl (by decide) (Nat.le_of_ble_eq_true rfl) rfl rfl (Nat.le_of_ble_eq_true rfl) (Nat.le_of_ble_eq_true rfl) rfl (hZ.mono (by decide) (fun _ _ => rfl)) ?_
  refine e_pfR (ly' := (upS ly 20 (17, 0, [0, 24, 2]))) (cs := [0, 2, 2]) (cs' := [0, 24, 2]) (cx cd_69_9 rfl rfl) (Nat.le_of_ble_eq_true rfl) rfl rfl (Nat.le_of_ble_eq_true rfl) rfl rfl rfl (fun b hb => by simp only [upS, nbeq hb, cond_false]) ?_
  refine e_ldRn (cx cd_69_12 rfl rfl) rfl ?_
  refine e_bipush (cx cd_69_13 rfl rfl) bp_64 ?_
  refine e_narr (z := 64) (kd := 0) (cs := []) (p1 := 2) (p2 := 72) (mm := 23) (cx cd_69_15 rfl rfl) ((hl 22 (Nat.le_of_ble_eq_true rfl) (Nat.le_of_ble_eq_true rfl)).trans rfl) rfl (Nat.le_of_ble_eq_true rfl) rfl (by decide) (Nat.le_of_ble_eq_true rfl) rfl rfl (Nat.le_of_ble_eq_true rfl) (Nat.le_of_ble_eq_true rfl) rfl (hZ.mono (by decide) (fun _ _ => rfl)) ?_
  refine e_pfR (ly' := (upS ly 20 (17, 0, [0, 24, 25]))) (cs := [0, 24, 2]) (cs' := [0, 24, 25]) (cx cd_69_17 rfl rfl) (Nat.le_of_ble_eq_true rfl) rfl rfl (Nat.le_of_ble_eq_true rfl) rfl rfl rfl (fun b hb => by simp only [upS, nbeq hb, cond_false]) ?_
  refine e_vret (cx cd_69_20 rfl rfl) rfl ?_
  rw [upS_id (ly := ly) (a := 20) (s := (17, 0, [0, 24, 25])) ((hl 20 (Nat.le_of_ble_eq_true rfl) (Nat.le_of_ble_eq_true rfl)).trans rfl)]
  exact h
theorem in_69_26 {d Ln : Nat} {K : Post} {ly : Nat → SH} {I : HI} {J : HJ} (hl : ∀ b, 26 ≤ b → b < 29 → ly b = lay Ln b) (hZ : Zr 27 I J) (h : K (.inl none) (hp 0 29 ly I J)) : cal (d + 1) 69 [.ref 26] (hp 0 27 (upS ly 26 (17, 0, [0, 2, 2])) I J) K := by
  refine call_in (Nat.le_of_ble_eq_true rfl) rfl rfl ?_
  refine e_ldRn (cx cd_69_0 rfl rfl) rfl ?_
  refine e_obj (cx cd_69_1 rfl rfl) (Nat.le_of_ble_eq_true rfl) ?_
  refine e_ldRn (cx cd_69_4 rfl rfl) rfl ?_
  refine e_bipush (cx cd_69_5 rfl rfl) bp_8 ?_
  refine e_narr (z := 8) (kd := 0) (cs := []) (p1 := 1) (p2 := 8) (mm := 28) (cx cd_69_7 rfl rfl) ((hl 27 (Nat.le_of_ble_eq_true rfl) (Nat.le_of_ble_eq_true rfl)).trans rfl) rfl (Nat.le_of_ble_eq_true rfl) rfl (by decide) (Nat.le_of_ble_eq_true rfl) rfl rfl (Nat.le_of_ble_eq_true rfl) (Nat.le_of_ble_eq_true rfl) rfl (hZ.mono (by decide) (fun _ _ => rfl)) ?_
  refine e_pfR (ly' := (upS ly 26 (17, 0, [0, 30, 2]))) (cs := [0, 2, 2]) (cs' := [0, 30, 2]) (cx cd_69_9 rfl rfl) (Nat.le_of_ble_eq_true rfl) rfl rfl (Nat.le_of_ble_eq_true rfl) rfl rfl rfl (fun b hb => by simp only [upS, nbeq hb, cond_false]) ?_
  refine e_ldRn (cx cd_69_12 rfl rfl) rfl ?_
  refine e_bipush (cx cd_69_13 rfl rfl) bp_64 ?_
  refine e_narr (z := 64) (kd := 0) (cs := []) (p1 := 2) (p2 := 72) (mm := 29) (cx cd_69_15 rfl rfl) ((hl 28 (Nat.le_of_ble_eq_true rfl) (Nat.le_of_ble_eq_true rfl)).trans rfl) rfl (Nat.le_of_ble_eq_true rfl) rfl (by decide) (Nat.le_of_ble_eq_true rfl) rfl rfl (Nat.le_of_ble_eq_true rfl) (Nat.le_of_ble_eq_true rfl) rfl (hZ.mono (by decide) (fun _ _ => rfl)) ?_
  refine e_pfR (ly' := (upS ly 26 (17, 0, [0, 30, 31]))) (cs := [0, 30, 2]) (cs' := [0, 30, 31]) (cx cd_69_17 rfl rfl) (Nat.le_of_ble_eq_true rfl) rfl rfl (Nat.le_of_ble_eq_true rfl) rfl rfl rfl (fun b hb => by simp only [upS, nbeq hb, cond_false]) ?_
  refine e_vret (cx cd_69_20 rfl rfl) rfl ?_
  rw [upS_id (ly := ly) (a := 26) (s := (17, 0, [0, 30, 31])) ((hl 26 (Nat.le_of_ble_eq_true rfl) (Nat.le_of_ble_eq_true rfl)).trans rfl)]
  exact h
theorem in_69_32 {d Ln : Nat} {K : Post} {ly : Nat → SH} {I : HI} {J : HJ} (hl : ∀ b, 32 ≤ b → b < 35 → ly b = lay Ln b) (hZ : Zr 33 I J) (h : K (.inl none) (hp 0 35 ly I J)) : cal (d + 1) 69 [.ref 32] (hp 0 33 (upS ly 32 (17, 0, [0, 2, 2])) I J) K := by
  refine call_in (Nat.le_of_ble_eq_true rfl) rfl rfl ?_
  refine e_ldRn (cx cd_69_0 rfl rfl) rfl ?_
  refine e_obj (cx cd_69_1 rfl rfl) (Nat.le_of_ble_eq_true rfl) ?_
  refine e_ldRn (cx cd_69_4 rfl rfl) rfl ?_
  refine e_bipush (cx cd_69_5 rfl rfl) bp_8 ?_
  refine e_narr (z := 8) (kd := 0) (cs := []) (p1 := 1) (p2 := 8) (mm := 34) (cx cd_69_7 rfl rfl) ((hl 33 (Nat.le_of_ble_eq_true rfl) (Nat.le_of_ble_eq_true rfl)).trans rfl) rfl (Nat.le_of_ble_eq_true rfl) rfl (by decide) (Nat.le_of_ble_eq_true rfl) rfl rfl (Nat.le_of_ble_eq_true rfl) (Nat.le_of_ble_eq_true rfl) rfl (hZ.mono (by decide) (fun _ _ => rfl)) ?_
  refine e_pfR (ly' := (upS ly 32 (17, 0, [0, 36, 2]))) (cs := [0, 2, 2]) (cs' := [0, 36, 2]) (cx cd_69_9 rfl rfl) (Nat.le_of_ble_eq_true rfl) rfl rfl (Nat.le_of_ble_eq_true rfl) rfl rfl rfl (fun b hb => by simp only [upS, nbeq hb, cond_false]) ?_
  refine e_ldRn (cx cd_69_12 rfl rfl) rfl ?_
  refine e_bipush (cx cd_69_13 rfl rfl) bp_64 ?_
  refine e_narr (z := 64) (kd := 0) (cs := []) (p1 := 2) (p2 := 72) (mm := 35) (cx cd_69_15 rfl rfl) ((hl 34 (Nat.le_of_ble_eq_true rfl) (Nat.le_of_ble_eq_true rfl)).trans rfl) rfl (Nat.le_of_ble_eq_true rfl) rfl (by decide) (Nat.le_of_ble_eq_true rfl) rfl rfl (Nat.le_of_ble_eq_true rfl) (Nat.le_of_ble_eq_true rfl) rfl (hZ.mono (by decide) (fun _ _ => rfl)) ?_
  refine e_pfR (ly' := (upS ly 32 (17, 0, [0, 36, 37]))) (cs := [0, 36, 2]) (cs' := [0, 36, 37]) (cx cd_69_17 rfl rfl) (Nat.le_of_ble_eq_true rfl) rfl rfl (Nat.le_of_ble_eq_true rfl) rfl rfl rfl (fun b hb => by simp only [upS, nbeq hb, cond_false]) ?_
  refine e_vret (cx cd_69_20 rfl rfl) rfl ?_
  rw [upS_id (ly := ly) (a := 32) (s := (17, 0, [0, 36, 37])) ((hl 32 (Nat.le_of_ble_eq_true rfl) (Nat.le_of_ble_eq_true rfl)).trans rfl)]
  exact h
theorem in_18_36 {d Ln : Nat} {K : Post} {ly : Nat → SH} {I : HI} {J : HJ} (hl : ∀ b, 36 ≤ b → b < 37 → ly b = lay Ln b) (hZ : Zr 37 I J) (h : K (.inl none) (hp 0 37 ly I J)) : cal (d + 1) 18 [.ref 36] (hp 0 37 (upS ly 36 (11, 0, [0, 0, 0])) I J) K := by
  refine call_in (Nat.le_of_ble_eq_true rfl) rfl rfl ?_
  refine e_ldRn (cx cd_18_0 rfl rfl) rfl ?_
  refine e_obj (cx cd_18_1 rfl rfl) (Nat.le_of_ble_eq_true rfl) ?_
  refine e_vret (cx cd_18_4 rfl rfl) rfl ?_
  rw [upS_id (ly := ly) (a := 36) (s := (11, 0, [0, 0, 0])) ((hl 36 (Nat.le_of_ble_eq_true rfl) (Nat.le_of_ble_eq_true rfl)).trans rfl)]
  exact h
theorem in_25_8 {d Ln : Nat} {K : Post} {ly : Nat → SH} {I : HI} {J : HJ} (hl : ∀ b, 8 ≤ b → b < 35 → ly b = lay Ln b) (hZ : Zr 9 I J) (h : K (.inl none) (hp 0 35 ly (stI (stI (stI (stI I 11) 17) 23) 29) J)) : cal (d + 4) 25 [.ref 8] (hp 0 9 (upS ly 8 (12, 0, [2, 2, 0, 0])) I J) K := by
  refine call_in (Nat.le_of_ble_eq_true rfl) rfl rfl ?_
  refine e_ldRn (cx cd_25_0 rfl rfl) rfl ?_
  refine e_obj (cx cd_25_1 rfl rfl) (Nat.le_of_ble_eq_true rfl) ?_
  refine e_ldRn (cx cd_25_4 rfl rfl) rfl ?_
  refine e_iconst (cx cd_25_5 rfl rfl) ic_4 ?_
  refine e_anew (z := 4) (cs := [2, 2, 2, 2]) (p1 := 1) (p2 := 4) (mm := 10) (cx cd_25_6 rfl rfl) (by decide) (fun q => by rcases q with _ | _ | _ | _ | q <;> rfl) rfl (by decide) (Nat.le_of_ble_eq_true rfl) rfl rfl (Nat.le_of_ble_eq_true rfl) (Nat.le_of_ble_eq_true rfl) rfl ?_
  refine e_pfR (ly' := (upS (upS ly 8 (12, 0, [12, 2, 0, 0])) 9 (3, 4, [2, 2, 2, 2]))) (cs := [2, 2, 0, 0]) (cs' := [12, 2, 0, 0]) (cx cd_25_9 rfl rfl) (Nat.le_of_ble_eq_true rfl) rfl rfl (Nat.le_of_ble_eq_true rfl) rfl rfl rfl (fun b hb => by simp only [upS, nbeq hb, cond_false]) ?_
  refine e_ldRn (cx cd_25_12 rfl rfl) rfl ?_
  refine e_iconst (cx cd_25_13 rfl rfl) ic_4 ?_
  refine e_anew (z := 4) (cs := [2, 2, 2, 2]) (p1 := 2) (p2 := 8) (mm := 11) (cx cd_25_14 rfl rfl) (by decide) (fun q => by rcases q with _ | _ | _ | _ | q <;> rfl) rfl (by decide) (Nat.le_of_ble_eq_true rfl) rfl rfl (Nat.le_of_ble_eq_true rfl) (Nat.le_of_ble_eq_true rfl) rfl ?_
  refine e_pfR (ly' := (upS (upS (upS ly 8 (12, 0, [12, 13, 0, 0])) 9 (3, 4, [2, 2, 2, 2])) 10 (4, 4, [2, 2, 2, 2]))) (cs := [12, 2, 0, 0]) (cs' := [12, 13, 0, 0]) (cx cd_25_17 rfl rfl) (Nat.le_of_ble_eq_true rfl) rfl rfl (Nat.le_of_ble_eq_true rfl) rfl rfl rfl (fun b hb => by simp only [upS, nbeq hb, cond_false]) ?_
  refine e_iconst (cx cd_25_20 rfl rfl) ic_0 ?_
  refine e_stIn (L' := [some (.ref 8), some (.int 0)]) (cx cd_25_21 rfl rfl) (Nat.le_of_ble_eq_true rfl) rfl ?_
  refine e_ldIn (cx cd_25_22 rfl rfl) rfl ?_
  refine e_ldRn (cx cd_25_23 rfl rfl) rfl ?_
  refine e_gfR (q := 9) (cx cd_25_24 rfl rfl) (Nat.le_of_ble_eq_true rfl) rfl rfl ?_
  refine e_alen3 (z := 4) (cx cd_25_27 rfl rfl) (Nat.le_of_ble_eq_true rfl) rfl ?_
  refine e_ic (t := 72) (cx cd_25_28 rfl rfl) rfl (bC_n (by decide) ?_)
  refine e_ldIn (cx cd_25_31 rfl rfl) rfl ?_
  refine e_ldRn (cx cd_25_32 rfl rfl) rfl ?_
  refine e_gfR (q := 10) (cx cd_25_33 rfl rfl) (Nat.le_of_ble_eq_true rfl) rfl rfl ?_
  refine e_alen4 (z := 4) (cx cd_25_36 rfl rfl) (Nat.le_of_ble_eq_true rfl) rfl ?_
  refine e_ic (t := 72) (cx cd_25_37 rfl rfl) rfl (bC_n (by decide) ?_)
  refine e_ldRn (cx cd_25_40 rfl rfl) rfl ?_
  refine e_gfR (q := 9) (cx cd_25_41 rfl rfl) (Nat.le_of_ble_eq_true rfl) rfl rfl ?_
  refine e_ldIn (cx cd_25_44 rfl rfl) rfl ?_
  refine e_new (cs := [0, 0, 2, 2]) (p1 := 3) (p2 := 12) (mm := 12) (cx cd_25_45 rfl rfl) (by decide) rfl rfl rfl (Nat.le_of_ble_eq_true rfl) (Nat.le_of_ble_eq_true rfl) rfl (hZ.mono (by decide) (fun _ _ => rfl)) ?_
  refine e_dup (cx cd_25_48 rfl rfl) rfl ?_
  refine e_call (vs := [.ref 11]) (cx cd_25_49 rfl rfl) inv_i (by decide) rfl rfl (Nat.le_of_ble_eq_true rfl) (Nat.le_of_ble_eq_true rfl) (Nat.le_of_ble_eq_true rfl) trivial ?_
  refine in_46_11 (ly := (upS (upS (upS ly 8 (12, 0, [12, 13, 0, 0])) 9 (3, 4, [2, 2, 2, 2])) 10 (4, 4, [2, 2, 2, 2]))) (fun b h1 h2 => by rw [upS_ne (by omega), upS_ne (by omega), upS_ne (by omega), hl b (by omega) (by omega)]) (hZ.mono (by decide) (fun _ _ => rfl)) ?_
  refine kc_n (mm := 14) (p1 := 5) (p2 := 110) rfl rfl rfl ?_
  refine e_aast (ly' := (upS (upS (upS ly 8 (12, 0, [12, 13, 0, 0])) 9 (3, 4, [14, 2, 2, 2])) 10 (4, 4, [2, 2, 2, 2]))) (z := 4) (cs := [2, 2, 2, 2]) (cs' := [14, 2, 2, 2]) (cx cd_25_52 rfl rfl) (Nat.le_of_ble_eq_true rfl) rfl (Nat.le_of_ble_eq_true rfl) ((hl 11 (Nat.le_of_ble_eq_true rfl) (Nat.le_of_ble_eq_true rfl)).trans rfl) (by decide) (by unfold vp_in; decide) (by decide) (by decide) rfl (fun b hb => by simp only [upS, nbeq hb, cond_false]) ?_
  refine e_ldRn (cx cd_25_53 rfl rfl) rfl ?_
  refine e_gfR (q := 10) (cx cd_25_54 rfl rfl) (Nat.le_of_ble_eq_true rfl) rfl rfl ?_
  refine e_ldIn (cx cd_25_57 rfl rfl) rfl ?_
  refine e_new (cs := [0, 2, 2]) (p1 := 6) (p2 := 113) (mm := 15) (cx cd_25_58 rfl rfl) (by decide) rfl rfl rfl (Nat.le_of_ble_eq_true rfl) (Nat.le_of_ble_eq_true rfl) rfl ((hZ.mono (by decide) (fun _ _ => rfl)).st (by decide)) ?_
  refine e_dup (cx cd_25_61 rfl rfl) rfl ?_
  refine e_call (vs := [.ref 14]) (cx cd_25_62 rfl rfl) inv_i (by decide) rfl rfl (Nat.le_of_ble_eq_true rfl) (Nat.le_of_ble_eq_true rfl) (Nat.le_of_ble_eq_true rfl) trivial ?_
  refine in_69_14 (ly := (upS (upS (upS ly 8 (12, 0, [12, 13, 0, 0])) 9 (3, 4, [14, 2, 2, 2])) 10 (4, 4, [2, 2, 2, 2]))) (fun b h1 h2 => by rw [upS_ne (by omega), upS_ne (by omega), upS_ne (by omega), hl b (by omega) (by omega)]) ((hZ.mono (by decide) (fun _ _ => rfl)).st (by decide)) ?_
  refine kc_n (mm := 17) (p1 := 8) (p2 := 185) rfl rfl rfl ?_
  refine e_aast (ly' := (upS (upS (upS ly 8 (12, 0, [12, 13, 0, 0])) 9 (3, 4, [14, 2, 2, 2])) 10 (4, 4, [17, 2, 2, 2]))) (z := 4) (cs := [2, 2, 2, 2]) (cs' := [17, 2, 2, 2]) (cx cd_25_65 rfl rfl) (Nat.le_of_ble_eq_true rfl) rfl (Nat.le_of_ble_eq_true rfl) ((hl 14 (Nat.le_of_ble_eq_true rfl) (Nat.le_of_ble_eq_true rfl)).trans rfl) (by decide) (by unfold vp_in; decide) (by decide) (by decide) rfl (fun b hb => by simp only [upS, nbeq hb, cond_false]) ?_
  refine e_iinc (L' := [some (.ref 8), some (.int 1)]) (cx cd_25_66 rfl rfl) ic_1 rfl (Nat.le_of_ble_eq_true rfl) rfl ?_
  refine e_goto (t := 22) (cx cd_25_69 rfl rfl) rfl ?_
  refine e_ldIn (cx cd_25_22 rfl rfl) rfl ?_
  refine e_ldRn (cx cd_25_23 rfl rfl) rfl ?_
  refine e_gfR (q := 9) (cx cd_25_24 rfl rfl) (Nat.le_of_ble_eq_true rfl) rfl rfl ?_
  refine e_alen3 (z := 4) (cx cd_25_27 rfl rfl) (Nat.le_of_ble_eq_true rfl) rfl ?_
  refine e_ic (t := 72) (cx cd_25_28 rfl rfl) rfl (bC_n (by decide) ?_)
  refine e_ldIn (cx cd_25_31 rfl rfl) rfl ?_
  refine e_ldRn (cx cd_25_32 rfl rfl) rfl ?_
  refine e_gfR (q := 10) (cx cd_25_33 rfl rfl) (Nat.le_of_ble_eq_true rfl) rfl rfl ?_
  refine e_alen4 (z := 4) (cx cd_25_36 rfl rfl) (Nat.le_of_ble_eq_true rfl) rfl ?_
  refine e_ic (t := 72) (cx cd_25_37 rfl rfl) rfl (bC_n (by decide) ?_)
  refine e_ldRn (cx cd_25_40 rfl rfl) rfl ?_
  refine e_gfR (q := 9) (cx cd_25_41 rfl rfl) (Nat.le_of_ble_eq_true rfl) rfl rfl ?_
  refine e_ldIn (cx cd_25_44 rfl rfl) rfl ?_
  refine e_new (cs := [0, 0, 2, 2]) (p1 := 9) (p2 := 189) (mm := 18) (cx cd_25_45 rfl rfl) (by decide) rfl rfl rfl (Nat.le_of_ble_eq_true rfl) (Nat.le_of_ble_eq_true rfl) rfl ((hZ.mono (by decide) (fun _ _ => rfl)).st (by decide)) ?_
  refine e_dup (cx cd_25_48 rfl rfl) rfl ?_
  refine e_call (vs := [.ref 17]) (cx cd_25_49 rfl rfl) inv_i (by decide) rfl rfl (Nat.le_of_ble_eq_true rfl) (Nat.le_of_ble_eq_true rfl) (Nat.le_of_ble_eq_true rfl) trivial ?_
  refine in_46_17 (ly := (upS (upS (upS ly 8 (12, 0, [12, 13, 0, 0])) 9 (3, 4, [14, 2, 2, 2])) 10 (4, 4, [17, 2, 2, 2]))) (fun b h1 h2 => by rw [upS_ne (by omega), upS_ne (by omega), upS_ne (by omega), hl b (by omega) (by omega)]) ((hZ.mono (by decide) (fun _ _ => rfl)).st (by decide)) ?_
  refine kc_n (mm := 20) (p1 := 11) (p2 := 287) rfl rfl rfl ?_
  refine e_aast (ly' := (upS (upS (upS ly 8 (12, 0, [12, 13, 0, 0])) 9 (3, 4, [14, 20, 2, 2])) 10 (4, 4, [17, 2, 2, 2]))) (z := 4) (cs := [14, 2, 2, 2]) (cs' := [14, 20, 2, 2]) (cx cd_25_52 rfl rfl) (Nat.le_of_ble_eq_true rfl) rfl (Nat.le_of_ble_eq_true rfl) ((hl 17 (Nat.le_of_ble_eq_true rfl) (Nat.le_of_ble_eq_true rfl)).trans rfl) (by decide) (by unfold vp_in; decide) (by decide) (by decide) rfl (fun b hb => by simp only [upS, nbeq hb, cond_false]) ?_
  refine e_ldRn (cx cd_25_53 rfl rfl) rfl ?_
  refine e_gfR (q := 10) (cx cd_25_54 rfl rfl) (Nat.le_of_ble_eq_true rfl) rfl rfl ?_
  refine e_ldIn (cx cd_25_57 rfl rfl) rfl ?_
  refine e_new (cs := [0, 2, 2]) (p1 := 12) (p2 := 290) (mm := 21) (cx cd_25_58 rfl rfl) (by decide) rfl rfl rfl (Nat.le_of_ble_eq_true rfl) (Nat.le_of_ble_eq_true rfl) rfl (((hZ.mono (by decide) (fun _ _ => rfl)).st (by decide)).st (by decide)) ?_
  refine e_dup (cx cd_25_61 rfl rfl) rfl ?_
  refine e_call (vs := [.ref 20]) (cx cd_25_62 rfl rfl) inv_i (by decide) rfl rfl (Nat.le_of_ble_eq_true rfl) (Nat.le_of_ble_eq_true rfl) (Nat.le_of_ble_eq_true rfl) trivial ?_
  refine in_69_20 (ly := (upS (upS (upS ly 8 (12, 0, [12, 13, 0, 0])) 9 (3, 4, [14, 20, 2, 2])) 10 (4, 4, [17, 2, 2, 2]))) (fun b h1 h2 => by rw [upS_ne (by omega), upS_ne (by omega), upS_ne (by omega), hl b (by omega) (by omega)]) (((hZ.mono (by decide) (fun _ _ => rfl)).st (by decide)).st (by decide)) ?_
  refine kc_n (mm := 23) (p1 := 14) (p2 := 362) rfl rfl rfl ?_
  refine e_aast (ly' := (upS (upS (upS ly 8 (12, 0, [12, 13, 0, 0])) 9 (3, 4, [14, 20, 2, 2])) 10 (4, 4, [17, 23, 2, 2]))) (z := 4) (cs := [17, 2, 2, 2]) (cs' := [17, 23, 2, 2]) (cx cd_25_65 rfl rfl) (Nat.le_of_ble_eq_true rfl) rfl (Nat.le_of_ble_eq_true rfl) ((hl 20 (Nat.le_of_ble_eq_true rfl) (Nat.le_of_ble_eq_true rfl)).trans rfl) (by decide) (by unfold vp_in; decide) (by decide) (by decide) rfl (fun b hb => by simp only [upS, nbeq hb, cond_false]) ?_
  refine e_iinc (L' := [some (.ref 8), some (.int 2)]) (cx cd_25_66 rfl rfl) ic_1 rfl (Nat.le_of_ble_eq_true rfl) rfl ?_
  refine e_goto (t := 22) (cx cd_25_69 rfl rfl) rfl ?_
  refine e_ldIn (cx cd_25_22 rfl rfl) rfl ?_
  refine e_ldRn (cx cd_25_23 rfl rfl) rfl ?_
  refine e_gfR (q := 9) (cx cd_25_24 rfl rfl) (Nat.le_of_ble_eq_true rfl) rfl rfl ?_
  refine e_alen3 (z := 4) (cx cd_25_27 rfl rfl) (Nat.le_of_ble_eq_true rfl) rfl ?_
  refine e_ic (t := 72) (cx cd_25_28 rfl rfl) rfl (bC_n (by decide) ?_)
  refine e_ldIn (cx cd_25_31 rfl rfl) rfl ?_
  refine e_ldRn (cx cd_25_32 rfl rfl) rfl ?_
  refine e_gfR (q := 10) (cx cd_25_33 rfl rfl) (Nat.le_of_ble_eq_true rfl) rfl rfl ?_
  refine e_alen4 (z := 4) (cx cd_25_36 rfl rfl) (Nat.le_of_ble_eq_true rfl) rfl ?_
  refine e_ic (t := 72) (cx cd_25_37 rfl rfl) rfl (bC_n (by decide) ?_)
  refine e_ldRn (cx cd_25_40 rfl rfl) rfl ?_
  refine e_gfR (q := 9) (cx cd_25_41 rfl rfl) (Nat.le_of_ble_eq_true rfl) rfl rfl ?_
  refine e_ldIn (cx cd_25_44 rfl rfl) rfl ?_
  refine e_new (cs := [0, 0, 2, 2]) (p1 := 15) (p2 := 366) (mm := 24) (cx cd_25_45 rfl rfl) (by decide) rfl rfl rfl (Nat.le_of_ble_eq_true rfl) (Nat.le_of_ble_eq_true rfl) rfl (((hZ.mono (by decide) (fun _ _ => rfl)).st (by decide)).st (by decide)) ?_
  refine e_dup (cx cd_25_48 rfl rfl) rfl ?_
  refine e_call (vs := [.ref 23]) (cx cd_25_49 rfl rfl) inv_i (by decide) rfl rfl (Nat.le_of_ble_eq_true rfl) (Nat.le_of_ble_eq_true rfl) (Nat.le_of_ble_eq_true rfl) trivial ?_
  refine in_46_23 (ly := (upS (upS (upS ly 8 (12, 0, [12, 13, 0, 0])) 9 (3, 4, [14, 20, 2, 2])) 10 (4, 4, [17, 23, 2, 2]))) (fun b h1 h2 => by rw [upS_ne (by omega), upS_ne (by omega), upS_ne (by omega), hl b (by omega) (by omega)]) (((hZ.mono (by decide) (fun _ _ => rfl)).st (by decide)).st (by decide)) ?_
  refine kc_n (mm := 26) (p1 := 17) (p2 := 464) rfl rfl rfl ?_
  refine e_aast (ly' := (upS (upS (upS ly 8 (12, 0, [12, 13, 0, 0])) 9 (3, 4, [14, 20, 26, 2])) 10 (4, 4, [17, 23, 2, 2]))) (z := 4) (cs := [14, 20, 2, 2]) (cs' := [14, 20, 26, 2]) (cx cd_25_52 rfl rfl) (Nat.le_of_ble_eq_true rfl) rfl (Nat.le_of_ble_eq_true rfl) ((hl 23 (Nat.le_of_ble_eq_true rfl) (Nat.le_of_ble_eq_true rfl)).trans rfl) (by decide) (by unfold vp_in; decide) (by decide) (by decide) rfl (fun b hb => by simp only [upS, nbeq hb, cond_false]) ?_
  refine e_ldRn (cx cd_25_53 rfl rfl) rfl ?_
  refine e_gfR (q := 10) (cx cd_25_54 rfl rfl) (Nat.le_of_ble_eq_true rfl) rfl rfl ?_
  refine e_ldIn (cx cd_25_57 rfl rfl) rfl ?_
  refine e_new (cs := [0, 2, 2]) (p1 := 18) (p2 := 467) (mm := 27) (cx cd_25_58 rfl rfl) (by decide) rfl rfl rfl (Nat.le_of_ble_eq_true rfl) (Nat.le_of_ble_eq_true rfl) rfl ((((hZ.mono (by decide) (fun _ _ => rfl)).st (by decide)).st (by decide)).st (by decide)) ?_
  refine e_dup (cx cd_25_61 rfl rfl) rfl ?_
  refine e_call (vs := [.ref 26]) (cx cd_25_62 rfl rfl) inv_i (by decide) rfl rfl (Nat.le_of_ble_eq_true rfl) (Nat.le_of_ble_eq_true rfl) (Nat.le_of_ble_eq_true rfl) trivial ?_
  refine in_69_26 (ly := (upS (upS (upS ly 8 (12, 0, [12, 13, 0, 0])) 9 (3, 4, [14, 20, 26, 2])) 10 (4, 4, [17, 23, 2, 2]))) (fun b h1 h2 => by rw [upS_ne (by omega), upS_ne (by omega), upS_ne (by omega), hl b (by omega) (by omega)]) ((((hZ.mono (by decide) (fun _ _ => rfl)).st (by decide)).st (by decide)).st (by decide)) ?_
  refine kc_n (mm := 29) (p1 := 20) (p2 := 539) rfl rfl rfl ?_
  refine e_aast (ly' := (upS (upS (upS ly 8 (12, 0, [12, 13, 0, 0])) 9 (3, 4, [14, 20, 26, 2])) 10 (4, 4, [17, 23, 29, 2]))) (z := 4) (cs := [17, 23, 2, 2]) (cs' := [17, 23, 29, 2]) (cx cd_25_65 rfl rfl) (Nat.le_of_ble_eq_true rfl) rfl (Nat.le_of_ble_eq_true rfl) ((hl 26 (Nat.le_of_ble_eq_true rfl) (Nat.le_of_ble_eq_true rfl)).trans rfl) (by decide) (by unfold vp_in; decide) (by decide) (by decide) rfl (fun b hb => by simp only [upS, nbeq hb, cond_false]) ?_
  refine e_iinc (L' := [some (.ref 8), some (.int 3)]) (cx cd_25_66 rfl rfl) ic_1 rfl (Nat.le_of_ble_eq_true rfl) rfl ?_
  refine e_goto (t := 22) (cx cd_25_69 rfl rfl) rfl ?_
  refine e_ldIn (cx cd_25_22 rfl rfl) rfl ?_
  refine e_ldRn (cx cd_25_23 rfl rfl) rfl ?_
  refine e_gfR (q := 9) (cx cd_25_24 rfl rfl) (Nat.le_of_ble_eq_true rfl) rfl rfl ?_
  refine e_alen3 (z := 4) (cx cd_25_27 rfl rfl) (Nat.le_of_ble_eq_true rfl) rfl ?_
  refine e_ic (t := 72) (cx cd_25_28 rfl rfl) rfl (bC_n (by decide) ?_)
  refine e_ldIn (cx cd_25_31 rfl rfl) rfl ?_
  refine e_ldRn (cx cd_25_32 rfl rfl) rfl ?_
  refine e_gfR (q := 10) (cx cd_25_33 rfl rfl) (Nat.le_of_ble_eq_true rfl) rfl rfl ?_
  refine e_alen4 (z := 4) (cx cd_25_36 rfl rfl) (Nat.le_of_ble_eq_true rfl) rfl ?_
  refine e_ic (t := 72) (cx cd_25_37 rfl rfl) rfl (bC_n (by decide) ?_)
  refine e_ldRn (cx cd_25_40 rfl rfl) rfl ?_
  refine e_gfR (q := 9) (cx cd_25_41 rfl rfl) (Nat.le_of_ble_eq_true rfl) rfl rfl ?_
  refine e_ldIn (cx cd_25_44 rfl rfl) rfl ?_
  refine e_new (cs := [0, 0, 2, 2]) (p1 := 21) (p2 := 543) (mm := 30) (cx cd_25_45 rfl rfl) (by decide) rfl rfl rfl (Nat.le_of_ble_eq_true rfl) (Nat.le_of_ble_eq_true rfl) rfl ((((hZ.mono (by decide) (fun _ _ => rfl)).st (by decide)).st (by decide)).st (by decide)) ?_
  refine e_dup (cx cd_25_48 rfl rfl) rfl ?_
  refine e_call (vs := [.ref 29]) (cx cd_25_49 rfl rfl) inv_i (by decide) rfl rfl (Nat.le_of_ble_eq_true rfl) (Nat.le_of_ble_eq_true rfl) (Nat.le_of_ble_eq_true rfl) trivial ?_
  refine in_46_29 (ly := (upS (upS (upS ly 8 (12, 0, [12, 13, 0, 0])) 9 (3, 4, [14, 20, 26, 2])) 10 (4, 4, [17, 23, 29, 2]))) (fun b h1 h2 => by rw [upS_ne (by omega), upS_ne (by omega), upS_ne (by omega), hl b (by omega) (by omega)]) ((((hZ.mono (by decide) (fun _ _ => rfl)).st (by decide)).st (by decide)).st (by decide)) ?_
  refine kc_n (mm := 32) (p1 := 23) (p2 := 641) rfl rfl rfl ?_
  refine e_aast (ly' := (upS (upS (upS ly 8 (12, 0, [12, 13, 0, 0])) 9 (3, 4, [14, 20, 26, 32])) 10 (4, 4, [17, 23, 29, 2]))) (z := 4) (cs := [14, 20, 26, 2]) (cs' := [14, 20, 26, 32]) (cx cd_25_52 rfl rfl) (Nat.le_of_ble_eq_true rfl) rfl (Nat.le_of_ble_eq_true rfl) ((hl 29 (Nat.le_of_ble_eq_true rfl) (Nat.le_of_ble_eq_true rfl)).trans rfl) (by decide) (by unfold vp_in; decide) (by decide) (by decide) rfl (fun b hb => by simp only [upS, nbeq hb, cond_false]) ?_
  refine e_ldRn (cx cd_25_53 rfl rfl) rfl ?_
  refine e_gfR (q := 10) (cx cd_25_54 rfl rfl) (Nat.le_of_ble_eq_true rfl) rfl rfl ?_
  refine e_ldIn (cx cd_25_57 rfl rfl) rfl ?_
  refine e_new (cs := [0, 2, 2]) (p1 := 24) (p2 := 644) (mm := 33) (cx cd_25_58 rfl rfl) (by decide) rfl rfl rfl (Nat.le_of_ble_eq_true rfl) (Nat.le_of_ble_eq_true rfl) rfl (((((hZ.mono (by decide) (fun _ _ => rfl)).st (by decide)).st (by decide)).st (by decide)).st (by decide)) ?_
  refine e_dup (cx cd_25_61 rfl rfl) rfl ?_
  refine e_call (vs := [.ref 32]) (cx cd_25_62 rfl rfl) inv_i (by decide) rfl rfl (Nat.le_of_ble_eq_true rfl) (Nat.le_of_ble_eq_true rfl) (Nat.le_of_ble_eq_true rfl) trivial ?_
  refine in_69_32 (ly := (upS (upS (upS ly 8 (12, 0, [12, 13, 0, 0])) 9 (3, 4, [14, 20, 26, 32])) 10 (4, 4, [17, 23, 29, 2]))) (fun b h1 h2 => by rw [upS_ne (by omega), upS_ne (by omega), upS_ne (by omega), hl b (by omega) (by omega)]) (((((hZ.mono (by decide) (fun _ _ => rfl)).st (by decide)).st (by decide)).st (by decide)).st (by decide)) ?_
  refine kc_n (mm := 35) (p1 := 26) (p2 := 716) rfl rfl rfl ?_
  refine e_aast (ly' := (upS (upS (upS ly 8 (12, 0, [12, 13, 0, 0])) 9 (3, 4, [14, 20, 26, 32])) 10 (4, 4, [17, 23, 29, 35]))) (z := 4) (cs := [17, 23, 29, 2]) (cs' := [17, 23, 29, 35]) (cx cd_25_65 rfl rfl) (Nat.le_of_ble_eq_true rfl) rfl (Nat.le_of_ble_eq_true rfl) ((hl 32 (Nat.le_of_ble_eq_true rfl) (Nat.le_of_ble_eq_true rfl)).trans rfl) (by decide) (by unfold vp_in; decide) (by decide) (by decide) rfl (fun b hb => by simp only [upS, nbeq hb, cond_false]) ?_
  refine e_iinc (L' := [some (.ref 8), some (.int 4)]) (cx cd_25_66 rfl rfl) ic_1 rfl (Nat.le_of_ble_eq_true rfl) rfl ?_
  refine e_goto (t := 22) (cx cd_25_69 rfl rfl) rfl ?_
  refine e_ldIn (cx cd_25_22 rfl rfl) rfl ?_
  refine e_ldRn (cx cd_25_23 rfl rfl) rfl ?_
  refine e_gfR (q := 9) (cx cd_25_24 rfl rfl) (Nat.le_of_ble_eq_true rfl) rfl rfl ?_
  refine e_alen3 (z := 4) (cx cd_25_27 rfl rfl) (Nat.le_of_ble_eq_true rfl) rfl ?_
  refine e_ic (t := 72) (cx cd_25_28 rfl rfl) rfl (bC_y (by decide) ?_)
  refine e_vret (cx cd_25_72 rfl rfl) rfl ?_
  rw [upS_id (ly := ly) (a := 8) (s := (12, 0, [12, 13, 0, 0])) ((hl 8 (Nat.le_of_ble_eq_true rfl) (Nat.le_of_ble_eq_true rfl)).trans rfl), upS_id (ly := ly) (a := 9) (s := (3, 4, [14, 20, 26, 32])) ((hl 9 (Nat.le_of_ble_eq_true rfl) (Nat.le_of_ble_eq_true rfl)).trans rfl), upS_id (ly := ly) (a := 10) (s := (4, 4, [17, 23, 29, 35])) ((hl 10 (Nat.le_of_ble_eq_true rfl) (Nat.le_of_ble_eq_true rfl)).trans rfl)]
  exact h
theorem in_0_35 {d Ln : Nat} {K : Post} {ly : Nat → SH} {I : HI} {J : HJ} (hl : ∀ b, 35 ≤ b → b < 47 → ly b = lay Ln b) (hZ : Zr 36 I J) (h : K (.inl none) (hp 0 47 ly I J)) : cal (d + 2) 0 [.ref 35] (hp 0 36 (upS ly 35 (10, 0, [2, 2, 2, 2, 2, 2, 2, 2, 2, 2, 2, 0, 0])) I J) K := by
  refine call_in (Nat.le_of_ble_eq_true rfl) rfl rfl ?_
  refine e_ldRn (cx cd_0_0 rfl rfl) rfl ?_
  refine e_obj (cx cd_0_1 rfl rfl) (Nat.le_of_ble_eq_true rfl) ?_
  refine e_ldRn (cx cd_0_4 rfl rfl) rfl ?_
  refine e_new (cs := [0, 0, 0]) (p1 := 1) (p2 := 3) (mm := 37) (cx cd_0_5 rfl rfl) (by decide) rfl rfl rfl (Nat.le_of_ble_eq_true rfl) (Nat.le_of_ble_eq_true rfl) rfl (hZ.mono (by decide) (fun _ _ => rfl)) ?_
  refine e_dup (cx cd_0_8 rfl rfl) rfl ?_
  refine e_call (vs := [.ref 36]) (cx cd_0_9 rfl rfl) inv_i (by decide) rfl rfl (Nat.le_of_ble_eq_true rfl) (Nat.le_of_ble_eq_true rfl) (Nat.le_of_ble_eq_true rfl) trivial ?_
  refine in_18_36 (ly := (upS ly 35 (10, 0, [2, 2, 2, 2, 2, 2, 2, 2, 2, 2, 2, 0, 0]))) (fun b h1 h2 => by rw [upS_ne (by omega), hl b (by omega) (by omega)]) (hZ.mono (by decide) (fun _ _ => rfl)) ?_
  refine kc_n (mm := 37) (p1 := 1) (p2 := 3) rfl rfl rfl ?_
  refine e_pfR (ly' := (upS ly 35 (10, 0, [39, 2, 2, 2, 2, 2, 2, 2, 2, 2, 2, 0, 0]))) (cs := [2, 2, 2, 2, 2, 2, 2, 2, 2, 2, 2, 0, 0]) (cs' := [39, 2, 2, 2, 2, 2, 2, 2, 2, 2, 2, 0, 0]) (cx cd_0_12 rfl rfl) (Nat.le_of_ble_eq_true rfl) rfl rfl (Nat.le_of_ble_eq_true rfl) rfl rfl rfl (fun b hb => by simp only [upS, nbeq hb, cond_false]) ?_
  refine e_ldRn (cx cd_0_15 rfl rfl) rfl ?_
  refine e_bipush (cx cd_0_16 rfl rfl) bp_28 ?_
  refine e_narr (z := 28) (kd := 0) (cs := []) (p1 := 2) (p2 := 31) (mm := 38) (cx cd_0_18 rfl rfl) ((hl 37 (Nat.le_of_ble_eq_true rfl) (Nat.le_of_ble_eq_true rfl)).trans rfl) rfl (Nat.le_of_ble_eq_true rfl) rfl (by decide) (Nat.le_of_ble_eq_true rfl) rfl rfl (Nat.le_of_ble_eq_true rfl) (Nat.le_of_ble_eq_true rfl) rfl (hZ.mono (by decide) (fun _ _ => rfl)) ?_
  refine e_pfR (ly' := (upS ly 35 (10, 0, [39, 40, 2, 2, 2, 2, 2, 2, 2, 2, 2, 0, 0]))) (cs := [39, 2, 2, 2, 2, 2, 2, 2, 2, 2, 2, 0, 0]) (cs' := [39, 40, 2, 2, 2, 2, 2, 2, 2, 2, 2, 0, 0]) (cx cd_0_20 rfl rfl) (Nat.le_of_ble_eq_true rfl) rfl rfl (Nat.le_of_ble_eq_true rfl) rfl rfl rfl (fun b hb => by simp only [upS, nbeq hb, cond_false]) ?_
  refine e_ldRn (cx cd_0_23 rfl rfl) rfl ?_
  refine e_bipush (cx cd_0_24 rfl rfl) bp_28 ?_
  refine e_narr (z := 28) (kd := 0) (cs := []) (p1 := 3) (p2 := 59) (mm := 39) (cx cd_0_26 rfl rfl) ((hl 38 (Nat.le_of_ble_eq_true rfl) (Nat.le_of_ble_eq_true rfl)).trans rfl) rfl (Nat.le_of_ble_eq_true rfl) rfl (by decide) (Nat.le_of_ble_eq_true rfl) rfl rfl (Nat.le_of_ble_eq_true rfl) (Nat.le_of_ble_eq_true rfl) rfl (hZ.mono (by decide) (fun _ _ => rfl)) ?_
  refine e_pfR (ly' := (upS ly 35 (10, 0, [39, 40, 41, 2, 2, 2, 2, 2, 2, 2, 2, 0, 0]))) (cs := [39, 40, 2, 2, 2, 2, 2, 2, 2, 2, 2, 0, 0]) (cs' := [39, 40, 41, 2, 2, 2, 2, 2, 2, 2, 2, 0, 0]) (cx cd_0_28 rfl rfl) (Nat.le_of_ble_eq_true rfl) rfl rfl (Nat.le_of_ble_eq_true rfl) rfl rfl rfl (fun b hb => by simp only [upS, nbeq hb, cond_false]) ?_
  refine e_ldRn (cx cd_0_31 rfl rfl) rfl ?_
  refine e_bipush (cx cd_0_32 rfl rfl) bp_28 ?_
  refine e_narr (z := 28) (kd := 0) (cs := []) (p1 := 4) (p2 := 87) (mm := 40) (cx cd_0_34 rfl rfl) ((hl 39 (Nat.le_of_ble_eq_true rfl) (Nat.le_of_ble_eq_true rfl)).trans rfl) rfl (Nat.le_of_ble_eq_true rfl) rfl (by decide) (Nat.le_of_ble_eq_true rfl) rfl rfl (Nat.le_of_ble_eq_true rfl) (Nat.le_of_ble_eq_true rfl) rfl (hZ.mono (by decide) (fun _ _ => rfl)) ?_
  refine e_pfR (ly' := (upS ly 35 (10, 0, [39, 40, 41, 42, 2, 2, 2, 2, 2, 2, 2, 0, 0]))) (cs := [39, 40, 41, 2, 2, 2, 2, 2, 2, 2, 2, 0, 0]) (cs' := [39, 40, 41, 42, 2, 2, 2, 2, 2, 2, 2, 0, 0]) (cx cd_0_36 rfl rfl) (Nat.le_of_ble_eq_true rfl) rfl rfl (Nat.le_of_ble_eq_true rfl) rfl rfl rfl (fun b hb => by simp only [upS, nbeq hb, cond_false]) ?_
  refine e_ldRn (cx cd_0_39 rfl rfl) rfl ?_
  refine e_bipush (cx cd_0_40 rfl rfl) bp_28 ?_
  refine e_narr (z := 28) (kd := 0) (cs := []) (p1 := 5) (p2 := 115) (mm := 41) (cx cd_0_42 rfl rfl) ((hl 40 (Nat.le_of_ble_eq_true rfl) (Nat.le_of_ble_eq_true rfl)).trans rfl) rfl (Nat.le_of_ble_eq_true rfl) rfl (by decide) (Nat.le_of_ble_eq_true rfl) rfl rfl (Nat.le_of_ble_eq_true rfl) (Nat.le_of_ble_eq_true rfl) rfl (hZ.mono (by decide) (fun _ _ => rfl)) ?_
  refine e_pfR (ly' := (upS ly 35 (10, 0, [39, 40, 41, 42, 43, 2, 2, 2, 2, 2, 2, 0, 0]))) (cs := [39, 40, 41, 42, 2, 2, 2, 2, 2, 2, 2, 0, 0]) (cs' := [39, 40, 41, 42, 43, 2, 2, 2, 2, 2, 2, 0, 0]) (cx cd_0_44 rfl rfl) (Nat.le_of_ble_eq_true rfl) rfl rfl (Nat.le_of_ble_eq_true rfl) rfl rfl rfl (fun b hb => by simp only [upS, nbeq hb, cond_false]) ?_
  refine e_ldRn (cx cd_0_47 rfl rfl) rfl ?_
  refine e_bipush (cx cd_0_48 rfl rfl) bp_28 ?_
  refine e_narr (z := 28) (kd := 1) (cs := []) (p1 := 6) (p2 := 143) (mm := 42) (cx cd_0_50 rfl rfl) ((hl 41 (Nat.le_of_ble_eq_true rfl) (Nat.le_of_ble_eq_true rfl)).trans rfl) rfl (Nat.le_of_ble_eq_true rfl) rfl (by decide) (Nat.le_of_ble_eq_true rfl) rfl rfl (Nat.le_of_ble_eq_true rfl) (Nat.le_of_ble_eq_true rfl) rfl (hZ.mono (by decide) (fun _ _ => rfl)) ?_
  refine e_pfR (ly' := (upS ly 35 (10, 0, [39, 40, 41, 42, 43, 44, 2, 2, 2, 2, 2, 0, 0]))) (cs := [39, 40, 41, 42, 43, 2, 2, 2, 2, 2, 2, 0, 0]) (cs' := [39, 40, 41, 42, 43, 44, 2, 2, 2, 2, 2, 0, 0]) (cx cd_0_52 rfl rfl) (Nat.le_of_ble_eq_true rfl) rfl rfl (Nat.le_of_ble_eq_true rfl) rfl rfl rfl (fun b hb => by simp only [upS, nbeq hb, cond_false]) ?_
  refine e_ldRn (cx cd_0_55 rfl rfl) rfl ?_
  refine e_bipush (cx cd_0_56 rfl rfl) bp_28 ?_
  refine e_narr (z := 28) (kd := 1) (cs := []) (p1 := 7) (p2 := 171) (mm := 43) (cx cd_0_58 rfl rfl) ((hl 42 (Nat.le_of_ble_eq_true rfl) (Nat.le_of_ble_eq_true rfl)).trans rfl) rfl (Nat.le_of_ble_eq_true rfl) rfl (by decide) (Nat.le_of_ble_eq_true rfl) rfl rfl (Nat.le_of_ble_eq_true rfl) (Nat.le_of_ble_eq_true rfl) rfl (hZ.mono (by decide) (fun _ _ => rfl)) ?_
  refine e_pfR (ly' := (upS ly 35 (10, 0, [39, 40, 41, 42, 43, 44, 45, 2, 2, 2, 2, 0, 0]))) (cs := [39, 40, 41, 42, 43, 44, 2, 2, 2, 2, 2, 0, 0]) (cs' := [39, 40, 41, 42, 43, 44, 45, 2, 2, 2, 2, 0, 0]) (cx cd_0_60 rfl rfl) (Nat.le_of_ble_eq_true rfl) rfl rfl (Nat.le_of_ble_eq_true rfl) rfl rfl rfl (fun b hb => by simp only [upS, nbeq hb, cond_false]) ?_
  refine e_ldRn (cx cd_0_63 rfl rfl) rfl ?_
  refine e_sipush (cx cd_0_64 rfl rfl) sp_2744 ?_
  refine e_narr (z := 2744) (kd := 0) (cs := []) (p1 := 8) (p2 := 2915) (mm := 44) (cx cd_0_67 rfl rfl) ((hl 43 (Nat.le_of_ble_eq_true rfl) (Nat.le_of_ble_eq_true rfl)).trans rfl) rfl (Nat.le_of_ble_eq_true rfl) rfl (by decide) (Nat.le_of_ble_eq_true rfl) rfl rfl (Nat.le_of_ble_eq_true rfl) (Nat.le_of_ble_eq_true rfl) rfl (hZ.mono (by decide) (fun _ _ => rfl)) ?_
  refine e_pfR (ly' := (upS ly 35 (10, 0, [39, 40, 41, 42, 43, 44, 45, 46, 2, 2, 2, 0, 0]))) (cs := [39, 40, 41, 42, 43, 44, 45, 2, 2, 2, 2, 0, 0]) (cs' := [39, 40, 41, 42, 43, 44, 45, 46, 2, 2, 2, 0, 0]) (cx cd_0_69 rfl rfl) (Nat.le_of_ble_eq_true rfl) rfl rfl (Nat.le_of_ble_eq_true rfl) rfl rfl rfl (fun b hb => by simp only [upS, nbeq hb, cond_false]) ?_
  refine e_ldRn (cx cd_0_72 rfl rfl) rfl ?_
  refine e_bipush (cx cd_0_73 rfl rfl) bp_49 ?_
  refine e_narr (z := 49) (kd := 0) (cs := []) (p1 := 9) (p2 := 2964) (mm := 45) (cx cd_0_75 rfl rfl) ((hl 44 (Nat.le_of_ble_eq_true rfl) (Nat.le_of_ble_eq_true rfl)).trans rfl) rfl (Nat.le_of_ble_eq_true rfl) rfl (by decide) (Nat.le_of_ble_eq_true rfl) rfl rfl (Nat.le_of_ble_eq_true rfl) (Nat.le_of_ble_eq_true rfl) rfl (hZ.mono (by decide) (fun _ _ => rfl)) ?_
  refine e_pfR (ly' := (upS ly 35 (10, 0, [39, 40, 41, 42, 43, 44, 45, 46, 47, 2, 2, 0, 0]))) (cs := [39, 40, 41, 42, 43, 44, 45, 46, 2, 2, 2, 0, 0]) (cs' := [39, 40, 41, 42, 43, 44, 45, 46, 47, 2, 2, 0, 0]) (cx cd_0_77 rfl rfl) (Nat.le_of_ble_eq_true rfl) rfl rfl (Nat.le_of_ble_eq_true rfl) rfl rfl rfl (fun b hb => by simp only [upS, nbeq hb, cond_false]) ?_
  refine e_ldRn (cx cd_0_80 rfl rfl) rfl ?_
  refine e_bipush (cx cd_0_81 rfl rfl) bp_49 ?_
  refine e_narr (z := 49) (kd := 0) (cs := []) (p1 := 10) (p2 := 3013) (mm := 46) (cx cd_0_83 rfl rfl) ((hl 45 (Nat.le_of_ble_eq_true rfl) (Nat.le_of_ble_eq_true rfl)).trans rfl) rfl (Nat.le_of_ble_eq_true rfl) rfl (by decide) (Nat.le_of_ble_eq_true rfl) rfl rfl (Nat.le_of_ble_eq_true rfl) (Nat.le_of_ble_eq_true rfl) rfl (hZ.mono (by decide) (fun _ _ => rfl)) ?_
  refine e_pfR (ly' := (upS ly 35 (10, 0, [39, 40, 41, 42, 43, 44, 45, 46, 47, 48, 2, 0, 0]))) (cs := [39, 40, 41, 42, 43, 44, 45, 46, 47, 2, 2, 0, 0]) (cs' := [39, 40, 41, 42, 43, 44, 45, 46, 47, 48, 2, 0, 0]) (cx cd_0_85 rfl rfl) (Nat.le_of_ble_eq_true rfl) rfl rfl (Nat.le_of_ble_eq_true rfl) rfl rfl rfl (fun b hb => by simp only [upS, nbeq hb, cond_false]) ?_
  refine e_ldRn (cx cd_0_88 rfl rfl) rfl ?_
  refine e_bipush (cx cd_0_89 rfl rfl) bp_49 ?_
  refine e_narr (z := 49) (kd := 0) (cs := []) (p1 := 11) (p2 := 3062) (mm := 47) (cx cd_0_91 rfl rfl) ((hl 46 (Nat.le_of_ble_eq_true rfl) (Nat.le_of_ble_eq_true rfl)).trans rfl) rfl (Nat.le_of_ble_eq_true rfl) rfl (by decide) (Nat.le_of_ble_eq_true rfl) rfl rfl (Nat.le_of_ble_eq_true rfl) (Nat.le_of_ble_eq_true rfl) rfl (hZ.mono (by decide) (fun _ _ => rfl)) ?_
  refine e_pfR (ly' := (upS ly 35 (10, 0, [39, 40, 41, 42, 43, 44, 45, 46, 47, 48, 49, 0, 0]))) (cs := [39, 40, 41, 42, 43, 44, 45, 46, 47, 48, 2, 0, 0]) (cs' := [39, 40, 41, 42, 43, 44, 45, 46, 47, 48, 49, 0, 0]) (cx cd_0_93 rfl rfl) (Nat.le_of_ble_eq_true rfl) rfl rfl (Nat.le_of_ble_eq_true rfl) rfl rfl rfl (fun b hb => by simp only [upS, nbeq hb, cond_false]) ?_
  refine e_vret (cx cd_0_96 rfl rfl) rfl ?_
  rw [upS_id (ly := ly) (a := 35) (s := (10, 0, [39, 40, 41, 42, 43, 44, 45, 46, 47, 48, 49, 0, 0])) ((hl 35 (Nat.le_of_ble_eq_true rfl) (Nat.le_of_ble_eq_true rfl)).trans rfl)]
  exact h
theorem in_38_47 {d Ln : Nat} {K : Post} {ly : Nat → SH} {I : HI} {J : HJ} (hl : ∀ b, 47 ≤ b → b < 53 → ly b = lay Ln b) (hZ : Zr 48 I J) (h : K (.inl none) (hp 0 53 ly I J)) : cal (d + 1) 38 [.ref 47] (hp 0 48 (upS ly 47 (14, 0, [2, 2, 2, 2, 2, 1, 0, 0, 0, 0, 0, 0])) I J) K := by
  refine call_in (Nat.le_of_ble_eq_true rfl) rfl rfl ?_
  refine e_ldRn (cx cd_38_0 rfl rfl) rfl ?_
  refine e_obj (cx cd_38_1 rfl rfl) (Nat.le_of_ble_eq_true rfl) ?_
  refine e_ldRn (cx cd_38_4 rfl rfl) rfl ?_
  refine e_bipush (cx cd_38_5 rfl rfl) bp_28 ?_
  refine e_narr (z := 28) (kd := 1) (cs := []) (p1 := 1) (p2 := 28) (mm := 49) (cx cd_38_7 rfl rfl) ((hl 48 (Nat.le_of_ble_eq_true rfl) (Nat.le_of_ble_eq_true rfl)).trans rfl) rfl (Nat.le_of_ble_eq_true rfl) rfl (by decide) (Nat.le_of_ble_eq_true rfl) rfl rfl (Nat.le_of_ble_eq_true rfl) (Nat.le_of_ble_eq_true rfl) rfl (hZ.mono (by decide) (fun _ _ => rfl)) ?_
  refine e_pfR (ly' := (upS ly 47 (14, 0, [51, 2, 2, 2, 2, 1, 0, 0, 0, 0, 0, 0]))) (cs := [2, 2, 2, 2, 2, 1, 0, 0, 0, 0, 0, 0]) (cs' := [51, 2, 2, 2, 2, 1, 0, 0, 0, 0, 0, 0]) (cx cd_38_9 rfl rfl) (Nat.le_of_ble_eq_true rfl) rfl rfl (Nat.le_of_ble_eq_true rfl) rfl rfl rfl (fun b hb => by simp only [upS, nbeq hb, cond_false]) ?_
  refine e_ldRn (cx cd_38_12 rfl rfl) rfl ?_
  refine e_bipush (cx cd_38_13 rfl rfl) bp_49 ?_
  refine e_narr (z := 49) (kd := 0) (cs := []) (p1 := 2) (p2 := 77) (mm := 50) (cx cd_38_15 rfl rfl) ((hl 49 (Nat.le_of_ble_eq_true rfl) (Nat.le_of_ble_eq_true rfl)).trans rfl) rfl (Nat.le_of_ble_eq_true rfl) rfl (by decide) (Nat.le_of_ble_eq_true rfl) rfl rfl (Nat.le_of_ble_eq_true rfl) (Nat.le_of_ble_eq_true rfl) rfl (hZ.mono (by decide) (fun _ _ => rfl)) ?_
  refine e_pfR (ly' := (upS ly 47 (14, 0, [51, 52, 2, 2, 2, 1, 0, 0, 0, 0, 0, 0]))) (cs := [51, 2, 2, 2, 2, 1, 0, 0, 0, 0, 0, 0]) (cs' := [51, 52, 2, 2, 2, 1, 0, 0, 0, 0, 0, 0]) (cx cd_38_17 rfl rfl) (Nat.le_of_ble_eq_true rfl) rfl rfl (Nat.le_of_ble_eq_true rfl) rfl rfl rfl (fun b hb => by simp only [upS, nbeq hb, cond_false]) ?_
  refine e_ldRn (cx cd_38_20 rfl rfl) rfl ?_
  refine e_bipush (cx cd_38_21 rfl rfl) bp_49 ?_
  refine e_narr (z := 49) (kd := 0) (cs := []) (p1 := 3) (p2 := 126) (mm := 51) (cx cd_38_23 rfl rfl) ((hl 50 (Nat.le_of_ble_eq_true rfl) (Nat.le_of_ble_eq_true rfl)).trans rfl) rfl (Nat.le_of_ble_eq_true rfl) rfl (by decide) (Nat.le_of_ble_eq_true rfl) rfl rfl (Nat.le_of_ble_eq_true rfl) (Nat.le_of_ble_eq_true rfl) rfl (hZ.mono (by decide) (fun _ _ => rfl)) ?_
  refine e_pfR (ly' := (upS ly 47 (14, 0, [51, 52, 53, 2, 2, 1, 0, 0, 0, 0, 0, 0]))) (cs := [51, 52, 2, 2, 2, 1, 0, 0, 0, 0, 0, 0]) (cs' := [51, 52, 53, 2, 2, 1, 0, 0, 0, 0, 0, 0]) (cx cd_38_25 rfl rfl) (Nat.le_of_ble_eq_true rfl) rfl rfl (Nat.le_of_ble_eq_true rfl) rfl rfl rfl (fun b hb => by simp only [upS, nbeq hb, cond_false]) ?_
  refine e_ldRn (cx cd_38_28 rfl rfl) rfl ?_
  refine e_bipush (cx cd_38_29 rfl rfl) bp_28 ?_
  refine e_narr (z := 28) (kd := 0) (cs := []) (p1 := 4) (p2 := 154) (mm := 52) (cx cd_38_31 rfl rfl) ((hl 51 (Nat.le_of_ble_eq_true rfl) (Nat.le_of_ble_eq_true rfl)).trans rfl) rfl (Nat.le_of_ble_eq_true rfl) rfl (by decide) (Nat.le_of_ble_eq_true rfl) rfl rfl (Nat.le_of_ble_eq_true rfl) (Nat.le_of_ble_eq_true rfl) rfl (hZ.mono (by decide) (fun _ _ => rfl)) ?_
  refine e_pfR (ly' := (upS ly 47 (14, 0, [51, 52, 53, 54, 2, 1, 0, 0, 0, 0, 0, 0]))) (cs := [51, 52, 53, 2, 2, 1, 0, 0, 0, 0, 0, 0]) (cs' := [51, 52, 53, 54, 2, 1, 0, 0, 0, 0, 0, 0]) (cx cd_38_33 rfl rfl) (Nat.le_of_ble_eq_true rfl) rfl rfl (Nat.le_of_ble_eq_true rfl) rfl rfl rfl (fun b hb => by simp only [upS, nbeq hb, cond_false]) ?_
  refine e_ldRn (cx cd_38_36 rfl rfl) rfl ?_
  refine e_bipush (cx cd_38_37 rfl rfl) bp_28 ?_
  refine e_narr (z := 28) (kd := 0) (cs := []) (p1 := 5) (p2 := 182) (mm := 53) (cx cd_38_39 rfl rfl) ((hl 52 (Nat.le_of_ble_eq_true rfl) (Nat.le_of_ble_eq_true rfl)).trans rfl) rfl (Nat.le_of_ble_eq_true rfl) rfl (by decide) (Nat.le_of_ble_eq_true rfl) rfl rfl (Nat.le_of_ble_eq_true rfl) (Nat.le_of_ble_eq_true rfl) rfl (hZ.mono (by decide) (fun _ _ => rfl)) ?_
  refine e_pfR (ly' := (upS ly 47 (14, 0, [51, 52, 53, 54, 55, 1, 0, 0, 0, 0, 0, 0]))) (cs := [51, 52, 53, 54, 2, 1, 0, 0, 0, 0, 0, 0]) (cs' := [51, 52, 53, 54, 55, 1, 0, 0, 0, 0, 0, 0]) (cx cd_38_41 rfl rfl) (Nat.le_of_ble_eq_true rfl) rfl rfl (Nat.le_of_ble_eq_true rfl) rfl rfl rfl (fun b hb => by simp only [upS, nbeq hb, cond_false]) ?_
  refine e_vret (cx cd_38_44 rfl rfl) rfl ?_
  rw [upS_id (ly := ly) (a := 47) (s := (14, 0, [51, 52, 53, 54, 55, 1, 0, 0, 0, 0, 0, 0])) ((hl 47 (Nat.le_of_ble_eq_true rfl) (Nat.le_of_ble_eq_true rfl)).trans rfl)]
  exact h
theorem in_30_53 {d Ln : Nat} {K : Post} {ly : Nat → SH} {I : HI} {J : HJ} (hl : ∀ b, 53 ≤ b → b < 55 → ly b = lay Ln b) (hZ : Zr 54 I J) (h : K (.inl none) (hp 0 55 ly I J)) : cal (d + 1) 30 [.ref 53] (hp 0 54 (upS ly 53 (13, 0, [2, 0, 0])) I J) K := by
  refine call_in (Nat.le_of_ble_eq_true rfl) rfl rfl ?_
  refine e_ldRn (cx cd_30_0 rfl rfl) rfl ?_
  refine e_obj (cx cd_30_1 rfl rfl) (Nat.le_of_ble_eq_true rfl) ?_
  refine e_ldRn (cx cd_30_4 rfl rfl) rfl ?_
  refine e_sipush (cx cd_30_5 rfl rfl) sp_294 ?_
  refine e_narr (z := 294) (kd := 0) (cs := []) (p1 := 1) (p2 := 294) (mm := 55) (cx cd_30_8 rfl rfl) ((hl 54 (Nat.le_of_ble_eq_true rfl) (Nat.le_of_ble_eq_true rfl)).trans rfl) rfl (Nat.le_of_ble_eq_true rfl) rfl (by decide) (Nat.le_of_ble_eq_true rfl) rfl rfl (Nat.le_of_ble_eq_true rfl) (Nat.le_of_ble_eq_true rfl) rfl (hZ.mono (by decide) (fun _ _ => rfl)) ?_
  refine e_pfR (ly' := (upS ly 53 (13, 0, [57, 0, 0]))) (cs := [2, 0, 0]) (cs' := [57, 0, 0]) (cx cd_30_10 rfl rfl) (Nat.le_of_ble_eq_true rfl) rfl rfl (Nat.le_of_ble_eq_true rfl) rfl rfl rfl (fun b hb => by simp only [upS, nbeq hb, cond_false]) ?_
  refine e_vret (cx cd_30_13 rfl rfl) rfl ?_
  rw [upS_id (ly := ly) (a := 53) (s := (13, 0, [57, 0, 0])) ((hl 53 (Nat.le_of_ble_eq_true rfl) (Nat.le_of_ble_eq_true rfl)).trans rfl)]
  exact h
theorem in_30_55 {d Ln : Nat} {K : Post} {ly : Nat → SH} {I : HI} {J : HJ} (hl : ∀ b, 55 ≤ b → b < 57 → ly b = lay Ln b) (hZ : Zr 56 I J) (h : K (.inl none) (hp 0 57 ly I J)) : cal (d + 1) 30 [.ref 55] (hp 0 56 (upS ly 55 (13, 0, [2, 0, 0])) I J) K := by
  refine call_in (Nat.le_of_ble_eq_true rfl) rfl rfl ?_
  refine e_ldRn (cx cd_30_0 rfl rfl) rfl ?_
  refine e_obj (cx cd_30_1 rfl rfl) (Nat.le_of_ble_eq_true rfl) ?_
  refine e_ldRn (cx cd_30_4 rfl rfl) rfl ?_
  refine e_sipush (cx cd_30_5 rfl rfl) sp_294 ?_
  refine e_narr (z := 294) (kd := 0) (cs := []) (p1 := 1) (p2 := 294) (mm := 57) (cx cd_30_8 rfl rfl) ((hl 56 (Nat.le_of_ble_eq_true rfl) (Nat.le_of_ble_eq_true rfl)).trans rfl) rfl (Nat.le_of_ble_eq_true rfl) rfl (by decide) (Nat.le_of_ble_eq_true rfl) rfl rfl (Nat.le_of_ble_eq_true rfl) (Nat.le_of_ble_eq_true rfl) rfl (hZ.mono (by decide) (fun _ _ => rfl)) ?_
  refine e_pfR (ly' := (upS ly 55 (13, 0, [59, 0, 0]))) (cs := [2, 0, 0]) (cs' := [59, 0, 0]) (cx cd_30_10 rfl rfl) (Nat.le_of_ble_eq_true rfl) rfl rfl (Nat.le_of_ble_eq_true rfl) rfl rfl rfl (fun b hb => by simp only [upS, nbeq hb, cond_false]) ?_
  refine e_vret (cx cd_30_13 rfl rfl) rfl ?_
  rw [upS_id (ly := ly) (a := 55) (s := (13, 0, [59, 0, 0])) ((hl 55 (Nat.le_of_ble_eq_true rfl) (Nat.le_of_ble_eq_true rfl)).trans rfl)]
  exact h
theorem in_62_57 {d Ln : Nat} {K : Post} {ly : Nat → SH} {I : HI} {J : HJ} (hl : ∀ b, 57 ≤ b → b < 59 → ly b = lay Ln b) (hZ : Zr 58 I J) (h : K (.inl none) (hp 0 59 ly I J)) : cal (d + 1) 62 [.ref 57] (hp 0 58 (upS ly 57 (16, 0, [2, 0])) I J) K := by
  refine call_in (Nat.le_of_ble_eq_true rfl) rfl rfl ?_
  refine e_ldRn (cx cd_62_0 rfl rfl) rfl ?_
  refine e_obj (cx cd_62_1 rfl rfl) (Nat.le_of_ble_eq_true rfl) ?_
  refine e_ldRn (cx cd_62_4 rfl rfl) rfl ?_
  refine e_bipush (cx cd_62_5 rfl rfl) bp_60 ?_
  refine e_narr (z := 60) (kd := 0) (cs := []) (p1 := 1) (p2 := 60) (mm := 59) (cx cd_62_7 rfl rfl) ((hl 58 (Nat.le_of_ble_eq_true rfl) (Nat.le_of_ble_eq_true rfl)).trans rfl) rfl (Nat.le_of_ble_eq_true rfl) rfl (by decide) (Nat.le_of_ble_eq_true rfl) rfl rfl (Nat.le_of_ble_eq_true rfl) (Nat.le_of_ble_eq_true rfl) rfl (hZ.mono (by decide) (fun _ _ => rfl)) ?_
  refine e_pfR (ly' := (upS ly 57 (16, 0, [61, 0]))) (cs := [2, 0]) (cs' := [61, 0]) (cx cd_62_9 rfl rfl) (Nat.le_of_ble_eq_true rfl) rfl rfl (Nat.le_of_ble_eq_true rfl) rfl rfl rfl (fun b hb => by simp only [upS, nbeq hb, cond_false]) ?_
  refine e_vret (cx cd_62_12 rfl rfl) rfl ?_
  rw [upS_id (ly := ly) (a := 57) (s := (16, 0, [61, 0])) ((hl 57 (Nat.le_of_ble_eq_true rfl) (Nat.le_of_ble_eq_true rfl)).trans rfl)]
  exact h
