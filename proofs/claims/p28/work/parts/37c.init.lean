/-! ===== the constructors of the class and of the reference (by program, wip/p28/t9.py) ===== -/
theorem st5 {I : HI} {b : Nat} (hb : b ≤ 10) : (stI (stI (stI (stI (stI I 2) 11) 17) 23) 29) b = stI I 2 b := by
  rw [stI_ne (by omega) (by omega), stI_ne (by omega) (by omega), stI_ne (by omega) (by omega), stI_ne (by omega) (by omega)]
theorem st5C {I : HI} : StC (stI (stI (stI (stI (stI I 2) 11) 17) 23) 29) 4 4 (fun _ => 46) := by
  refine ⟨⟨?_, ?_, by decide, by decide, by decide⟩, fun c hc => ?_⟩
  · rw [st5 (by decide), stI_w]; rfl
  · rw [st5 (by decide), stI_h]; rfl
  · rw [st5 (by decide)]; exact stI_c (a := 2) (by omega)
theorem in_80_1 {d Ln : Nat} {K : Post} {I : HI} {J : HJ} (hZ : Zr 2 I J) (h : ∀ I2 J2, BFr (stI (stI (stI (stI (stI I 2) 11) 17) 23) 29) J I2 J2 → BInv 4 4 (fun _ => 46) I2 J2 (2 * (4 + 4)) → K (.inl none) (hp 0 59 (lay Ln) I2 J2)) : cal (d + 7) 80 [.ref 1] (hp 0 2 (upS (lay Ln) 1 (18, 0, [2, 2, 2, 2, 2, 2, 2, 2])) I J) K := by
  have hl : ∀ b, 1 ≤ b → b < 59 → lay Ln b = lay Ln b := fun _ _ _ => rfl
  refine call_in (Nat.le_of_ble_eq_true rfl) rfl rfl ?_
  refine e_ldRn (cx cd_80_0 rfl rfl) rfl ?_
  refine e_obj (cx cd_80_1 rfl rfl) (Nat.le_of_ble_eq_true rfl) ?_
  refine e_ldRn (cx cd_80_4 rfl rfl) rfl ?_
  refine e_new (cs := [0, 0, 2, 2]) (p1 := 1) (p2 := 4) (mm := 3) (cx cd_80_5 rfl rfl) (by decide) rfl rfl rfl (Nat.le_of_ble_eq_true rfl) (Nat.le_of_ble_eq_true rfl) rfl (hZ.mono (by decide) (fun _ _ => rfl)) ?_
  refine e_dup (cx cd_80_8 rfl rfl) rfl ?_
  refine e_call (vs := [.ref 2]) (cx cd_80_9 rfl rfl) inv_i (by decide) rfl rfl (Nat.le_of_ble_eq_true rfl) (Nat.le_of_ble_eq_true rfl) (Nat.le_of_ble_eq_true rfl) trivial ?_
  refine in_46_2 (ly := (upS (lay Ln) 1 (18, 0, [2, 2, 2, 2, 2, 2, 2, 2]))) (fun b h1 h2 => by rw [upS_ne (by omega), hl b (by omega) (by omega)]) (hZ.mono (by decide) (fun _ _ => rfl)) ?_
  refine kc_n (mm := 5) (p1 := 3) (p2 := 102) rfl rfl rfl ?_
  refine e_pfR (ly' := (upS (lay Ln) 1 (18, 0, [5, 2, 2, 2, 2, 2, 2, 2]))) (cs := [2, 2, 2, 2, 2, 2, 2, 2]) (cs' := [5, 2, 2, 2, 2, 2, 2, 2]) (cx cd_80_12 rfl rfl) (Nat.le_of_ble_eq_true rfl) rfl rfl (Nat.le_of_ble_eq_true rfl) rfl rfl rfl (fun b hb => by simp only [upS, nbeq hb, cond_false]) ?_
  refine e_ldRn (cx cd_80_15 rfl rfl) rfl ?_
  refine e_new (cs := [0, 2, 2]) (p1 := 4) (p2 := 105) (mm := 6) (cx cd_80_16 rfl rfl) (by decide) rfl rfl rfl (Nat.le_of_ble_eq_true rfl) (Nat.le_of_ble_eq_true rfl) rfl ((hZ.mono (by decide) (fun _ _ => rfl)).st (by decide)) ?_
  refine e_dup (cx cd_80_19 rfl rfl) rfl ?_
  refine e_call (vs := [.ref 5]) (cx cd_80_20 rfl rfl) inv_i (by decide) rfl rfl (Nat.le_of_ble_eq_true rfl) (Nat.le_of_ble_eq_true rfl) (Nat.le_of_ble_eq_true rfl) trivial ?_
  refine in_69_5 (ly := (upS (lay Ln) 1 (18, 0, [5, 2, 2, 2, 2, 2, 2, 2]))) (fun b h1 h2 => by rw [upS_ne (by omega), hl b (by omega) (by omega)]) ((hZ.mono (by decide) (fun _ _ => rfl)).st (by decide)) ?_
  refine kc_n (mm := 8) (p1 := 6) (p2 := 177) rfl rfl rfl ?_
  refine e_pfR (ly' := (upS (lay Ln) 1 (18, 0, [5, 8, 2, 2, 2, 2, 2, 2]))) (cs := [5, 2, 2, 2, 2, 2, 2, 2]) (cs' := [5, 8, 2, 2, 2, 2, 2, 2]) (cx cd_80_23 rfl rfl) (Nat.le_of_ble_eq_true rfl) rfl rfl (Nat.le_of_ble_eq_true rfl) rfl rfl rfl (fun b hb => by simp only [upS, nbeq hb, cond_false]) ?_
  refine e_ldRn (cx cd_80_26 rfl rfl) rfl ?_
  refine e_new (cs := [2, 2, 0, 0]) (p1 := 7) (p2 := 181) (mm := 9) (cx cd_80_27 rfl rfl) (by decide) rfl rfl rfl (Nat.le_of_ble_eq_true rfl) (Nat.le_of_ble_eq_true rfl) rfl ((hZ.mono (by decide) (fun _ _ => rfl)).st (by decide)) ?_
  refine e_dup (cx cd_80_30 rfl rfl) rfl ?_
  refine e_call (vs := [.ref 8]) (cx cd_80_31 rfl rfl) inv_i (by decide) rfl rfl (Nat.le_of_ble_eq_true rfl) (Nat.le_of_ble_eq_true rfl) (Nat.le_of_ble_eq_true rfl) trivial ?_
  refine in_25_8 (ly := (upS (lay Ln) 1 (18, 0, [5, 8, 2, 2, 2, 2, 2, 2]))) (fun b h1 h2 => by rw [upS_ne (by omega), hl b (by omega) (by omega)]) ((hZ.mono (by decide) (fun _ _ => rfl)).st (by decide)) ?_
  refine kc_n (mm := 35) (p1 := 33) (p2 := 897) rfl rfl rfl ?_
  refine e_pfR (ly' := (upS (lay Ln) 1 (18, 0, [5, 8, 11, 2, 2, 2, 2, 2]))) (cs := [5, 8, 2, 2, 2, 2, 2, 2]) (cs' := [5, 8, 11, 2, 2, 2, 2, 2]) (cx cd_80_34 rfl rfl) (Nat.le_of_ble_eq_true rfl) rfl rfl (Nat.le_of_ble_eq_true rfl) rfl rfl rfl (fun b hb => by simp only [upS, nbeq hb, cond_false]) ?_
  refine e_ldRn (cx cd_80_37 rfl rfl) rfl ?_
  refine e_new (cs := [2, 2, 2, 2, 2, 2, 2, 2, 2, 2, 2, 0, 0]) (p1 := 34) (p2 := 910) (mm := 36) (cx cd_80_38 rfl rfl) (by decide) rfl rfl rfl (Nat.le_of_ble_eq_true rfl) (Nat.le_of_ble_eq_true rfl) rfl ((((((hZ.mono (by decide) (fun _ _ => rfl)).st (by decide)).st (by decide)).st (by decide)).st (by decide)).st (by decide)) ?_
  refine e_dup (cx cd_80_41 rfl rfl) rfl ?_
  refine e_call (vs := [.ref 35]) (cx cd_80_42 rfl rfl) inv_i (by decide) rfl rfl (Nat.le_of_ble_eq_true rfl) (Nat.le_of_ble_eq_true rfl) (Nat.le_of_ble_eq_true rfl) trivial ?_
  refine in_0_35 (ly := (upS (lay Ln) 1 (18, 0, [5, 8, 11, 2, 2, 2, 2, 2]))) (fun b h1 h2 => by rw [upS_ne (by omega), hl b (by omega) (by omega)]) ((((((hZ.mono (by decide) (fun _ _ => rfl)).st (by decide)).st (by decide)).st (by decide)).st (by decide)).st (by decide)) ?_
  refine kc_n (mm := 47) (p1 := 45) (p2 := 3972) rfl rfl rfl ?_
  refine e_pfR (ly' := (upS (lay Ln) 1 (18, 0, [5, 8, 11, 38, 2, 2, 2, 2]))) (cs := [5, 8, 11, 2, 2, 2, 2, 2]) (cs' := [5, 8, 11, 38, 2, 2, 2, 2]) (cx cd_80_45 rfl rfl) (Nat.le_of_ble_eq_true rfl) rfl rfl (Nat.le_of_ble_eq_true rfl) rfl rfl rfl (fun b hb => by simp only [upS, nbeq hb, cond_false]) ?_
  refine e_ldRn (cx cd_80_48 rfl rfl) rfl ?_
  refine e_new (cs := [2, 2, 2, 2, 2, 1, 0, 0, 0, 0, 0, 0]) (p1 := 46) (p2 := 3984) (mm := 48) (cx cd_80_49 rfl rfl) (by decide) rfl rfl rfl (Nat.le_of_ble_eq_true rfl) (Nat.le_of_ble_eq_true rfl) rfl ((((((hZ.mono (by decide) (fun _ _ => rfl)).st (by decide)).st (by decide)).st (by decide)).st (by decide)).st (by decide)) ?_
  refine e_dup (cx cd_80_52 rfl rfl) rfl ?_
  refine e_call (vs := [.ref 47]) (cx cd_80_53 rfl rfl) inv_i (by decide) rfl rfl (Nat.le_of_ble_eq_true rfl) (Nat.le_of_ble_eq_true rfl) (Nat.le_of_ble_eq_true rfl) trivial ?_
  refine in_38_47 (ly := (upS (lay Ln) 1 (18, 0, [5, 8, 11, 38, 2, 2, 2, 2]))) (fun b h1 h2 => by rw [upS_ne (by omega), hl b (by omega) (by omega)]) ((((((hZ.mono (by decide) (fun _ _ => rfl)).st (by decide)).st (by decide)).st (by decide)).st (by decide)).st (by decide)) ?_
  refine kc_n (mm := 53) (p1 := 51) (p2 := 4166) rfl rfl rfl ?_
  refine e_pfR (ly' := (upS (lay Ln) 1 (18, 0, [5, 8, 11, 38, 50, 2, 2, 2]))) (cs := [5, 8, 11, 38, 2, 2, 2, 2]) (cs' := [5, 8, 11, 38, 50, 2, 2, 2]) (cx cd_80_56 rfl rfl) (Nat.le_of_ble_eq_true rfl) rfl rfl (Nat.le_of_ble_eq_true rfl) rfl rfl rfl (fun b hb => by simp only [upS, nbeq hb, cond_false]) ?_
  refine e_ldRn (cx cd_80_59 rfl rfl) rfl ?_
  refine e_new (cs := [2, 0, 0]) (p1 := 52) (p2 := 4169) (mm := 54) (cx cd_80_60 rfl rfl) (by decide) rfl rfl rfl (Nat.le_of_ble_eq_true rfl) (Nat.le_of_ble_eq_true rfl) rfl ((((((hZ.mono (by decide) (fun _ _ => rfl)).st (by decide)).st (by decide)).st (by decide)).st (by decide)).st (by decide)) ?_
  refine e_dup (cx cd_80_63 rfl rfl) rfl ?_
  refine e_call (vs := [.ref 53]) (cx cd_80_64 rfl rfl) inv_i (by decide) rfl rfl (Nat.le_of_ble_eq_true rfl) (Nat.le_of_ble_eq_true rfl) (Nat.le_of_ble_eq_true rfl) trivial ?_
  refine in_30_53 (ly := (upS (lay Ln) 1 (18, 0, [5, 8, 11, 38, 50, 2, 2, 2]))) (fun b h1 h2 => by rw [upS_ne (by omega), hl b (by omega) (by omega)]) ((((((hZ.mono (by decide) (fun _ _ => rfl)).st (by decide)).st (by decide)).st (by decide)).st (by decide)).st (by decide)) ?_
  refine kc_n (mm := 55) (p1 := 53) (p2 := 4463) rfl rfl rfl ?_
  refine e_pfR (ly' := (upS (lay Ln) 1 (18, 0, [5, 8, 11, 38, 50, 56, 2, 2]))) (cs := [5, 8, 11, 38, 50, 2, 2, 2]) (cs' := [5, 8, 11, 38, 50, 56, 2, 2]) (cx cd_80_67 rfl rfl) (Nat.le_of_ble_eq_true rfl) rfl rfl (Nat.le_of_ble_eq_true rfl) rfl rfl rfl (fun b hb => by simp only [upS, nbeq hb, cond_false]) ?_
  refine e_ldRn (cx cd_80_70 rfl rfl) rfl ?_
  refine e_new (cs := [2, 0, 0]) (p1 := 54) (p2 := 4466) (mm := 56) (cx cd_80_71 rfl rfl) (by decide) rfl rfl rfl (Nat.le_of_ble_eq_true rfl) (Nat.le_of_ble_eq_true rfl) rfl ((((((hZ.mono (by decide) (fun _ _ => rfl)).st (by decide)).st (by decide)).st (by decide)).st (by decide)).st (by decide)) ?_
  refine e_dup (cx cd_80_74 rfl rfl) rfl ?_
  refine e_call (vs := [.ref 55]) (cx cd_80_75 rfl rfl) inv_i (by decide) rfl rfl (Nat.le_of_ble_eq_true rfl) (Nat.le_of_ble_eq_true rfl) (Nat.le_of_ble_eq_true rfl) trivial ?_
  refine in_30_55 (ly := (upS (lay Ln) 1 (18, 0, [5, 8, 11, 38, 50, 56, 2, 2]))) (fun b h1 h2 => by rw [upS_ne (by omega), hl b (by omega) (by omega)]) ((((((hZ.mono (by decide) (fun _ _ => rfl)).st (by decide)).st (by decide)).st (by decide)).st (by decide)).st (by decide)) ?_
  refine kc_n (mm := 57) (p1 := 55) (p2 := 4760) rfl rfl rfl ?_
  refine e_pfR (ly' := (upS (lay Ln) 1 (18, 0, [5, 8, 11, 38, 50, 56, 58, 2]))) (cs := [5, 8, 11, 38, 50, 56, 2, 2]) (cs' := [5, 8, 11, 38, 50, 56, 58, 2]) (cx cd_80_78 rfl rfl) (Nat.le_of_ble_eq_true rfl) rfl rfl (Nat.le_of_ble_eq_true rfl) rfl rfl rfl (fun b hb => by simp only [upS, nbeq hb, cond_false]) ?_
  refine e_ldRn (cx cd_80_81 rfl rfl) rfl ?_
  refine e_new (cs := [2, 0]) (p1 := 56) (p2 := 4762) (mm := 58) (cx cd_80_82 rfl rfl) (by decide) rfl rfl rfl (Nat.le_of_ble_eq_true rfl) (Nat.le_of_ble_eq_true rfl) rfl ((((((hZ.mono (by decide) (fun _ _ => rfl)).st (by decide)).st (by decide)).st (by decide)).st (by decide)).st (by decide)) ?_
  refine e_dup (cx cd_80_85 rfl rfl) rfl ?_
  refine e_call (vs := [.ref 57]) (cx cd_80_86 rfl rfl) inv_i (by decide) rfl rfl (Nat.le_of_ble_eq_true rfl) (Nat.le_of_ble_eq_true rfl) (Nat.le_of_ble_eq_true rfl) trivial ?_
  refine in_62_57 (ly := (upS (lay Ln) 1 (18, 0, [5, 8, 11, 38, 50, 56, 58, 2]))) (fun b h1 h2 => by rw [upS_ne (by omega), hl b (by omega) (by omega)]) ((((((hZ.mono (by decide) (fun _ _ => rfl)).st (by decide)).st (by decide)).st (by decide)).st (by decide)).st (by decide)) ?_
  refine kc_n (mm := 59) (p1 := 57) (p2 := 4822) rfl rfl rfl ?_
  refine e_pfR (ly' := (upS (lay Ln) 1 (18, 0, [5, 8, 11, 38, 50, 56, 58, 60]))) (cs := [5, 8, 11, 38, 50, 56, 58, 2]) (cs' := [5, 8, 11, 38, 50, 56, 58, 60]) (cx cd_80_89 rfl rfl) (Nat.le_of_ble_eq_true rfl) rfl rfl (Nat.le_of_ble_eq_true rfl) rfl rfl rfl (fun b hb => by simp only [upS, nbeq hb, cond_false]) ?_
  refine e_ldRn (cx cd_80_92 rfl rfl) rfl ?_
  refine e_gfR (q := 35) (cx cd_80_93 rfl rfl) (Nat.le_of_ble_eq_true rfl) rfl rfl ?_
  refine e_ldRn (cx cd_80_96 rfl rfl) rfl ?_
  refine e_gfR (q := 2) (cx cd_80_97 rfl rfl) (Nat.le_of_ble_eq_true rfl) rfl rfl ?_
  refine e_call (vs := [.ref 35, .ref 2]) (cx cd_80_100 rfl rfl) inv_v (by decide) rfl rfl (Nat.le_of_ble_eq_true rfl) (Nat.le_of_ble_eq_true rfl) (Nat.le_of_ble_eq_true rfl) (rc_v (by decide) (Nat.le_of_ble_eq_true rfl) rfl) ?_
  rw [upS_id (ly := (lay Ln)) (a := 1) (s := (18, 0, [5, 8, 11, 38, 50, 56, 58, 60])) ((hl 1 (Nat.le_of_ble_eq_true rfl) (Nat.le_of_ble_eq_true rfl)).trans rfl)]
  exact sp_trace (Nat.le_refl 59) st5C (fun I2 J2 f b => kc_0 rfl rfl (e_vret (cx cd_80_103 rfl rfl) rfl (h I2 J2 f b)))
