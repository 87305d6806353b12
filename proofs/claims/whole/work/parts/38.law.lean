/-! ===== the law from its first instruction ===== -/
section LAW
variable {d Ln : Nat} {Q : Post} {I : HI} {J : HJ} {u : Nat × Nat}
theorem law_fz {L : Lc} {st : List Value} {g : List AE} (h : EX (cal d) 219 Q 23 L st u (true, g)) : EX (cal d) 219 Q 23 L st u (false, g) := by
  have h := (EX_unf (cal_mono d)).mp h
  refine EX_in (cal_mono d) ?_
  unfold stp at h ⊢
  rw [cd_219_23] at h ⊢
  exact h
def I0 (xs : Nat → Int32) : HI := fun a => match a with
  | 0 => xs
  | _ + 1 => fun _ => 0
def J0 : HJ := fun _ _ => 0
def w0 : Wds := (0, fun _ => 0, fun _ _ => 0)
theorem hp0 {xs : Nat → Int32} : (false, scr Ln xs) = hp false 1 (lay Ln) (I0 xs) J0 := rfl
theorem Zr0 {xs : Nat → Int32} : Zr 1 (I0 xs) J0 := by
  intro b hb
  cases b with
  | zero => exact absurd hb (by decide)
  | succ b => exact ⟨rfl, rfl⟩
theorem law_S0 {xs : Nat → Int32} {I1 I2 : HI} {J1 : HJ} (f1 : BFr (stI (stI (stI (stI (stI (I0 xs) 2) 11) 17) 23) 29) J0 I1 J1) (hb : BInv 4 4 (fun _ => 46) I1 J1 (2 * (4 + 4))) (f2 : ∀ a k, ¬ (a = 60 ∧ k < 51) → I2 a k = I1 a k) (e1 : I2 60 0 = Int32.ofNat 4) (e2 : I2 60 1 = Int32.ofNat 4) (e3 : ∀ c, c < 49 → I2 60 (2 + c) = 46) : LwS I2 J1 := by
  have g2 : ∀ a, a ≠ 60 → I2 a = I1 a := fun a ha => funext fun k => f2 a k (fun e => ha e.1)
  have g1 : ∀ a, a ≤ 10 → I2 a = stI (I0 xs) 2 a := fun a ha => by rw [g2 a (by omega), f1.1 a (by omega), st5 ha]
  have z1 : ∀ a, 4 ≤ a → a ≤ 10 → ∀ k, I2 a k = 0 := fun a ha ha2 k => by
    rw [g1 a ha2, stI_ne (by omega) (by omega), (Zr0 (xs := xs) a (by omega)).1]
  have z2 : ∀ a k, 47 ≤ a → ¬ (a = 60 ∧ k < 51) → I2 a k = 0 := fun a k ha h => by
    rw [f2 a k h, f1.1 a (by omega), stI_ne (by omega) (by omega), stI_ne (by omega) (by omega), stI_ne (by omega) (by omega), stI_ne (by omega) (by omega), stI_ne (by omega) (by omega), (Zr0 (xs := xs) a (by omega)).1]
  refine ⟨4, 4, fun _ => 46, w0, [], 0, fun _ => 0, ?_, ?_⟩
  · refine CSt.mk ?_ ?_ ?_ ?_ ?_
    · exact (st5C (I := I0 xs)).mono ((g1 2 (by decide)).trans (st5 (by decide)).symm) ((g1 3 (by decide)).trans (st5 (by decide)).symm)
    · exact WOK.mk (z1 5 (by decide) (by decide) 0) (by decide) (fun i hi => absurd hi (Nat.not_lt_zero i)) (fun i hi => absurd hi (Nat.not_lt_zero i)) (fun i hi => absurd hi (Nat.not_lt_zero i))
    · exact ⟨z1 8 (by decide) (by decide) 2, by decide, 0, by decide, z1 8 (by decide) (by decide) 3, fun j v hv => by cases hv⟩
    · exact TXT.mk (z2 57 1 (by decide) (by omega)) (by decide) (fun k hk => absurd hk (Nat.not_lt_zero k))
    · exact hb.mono (fun a h1 h2 => g2 a (by omega)) (fun _ _ _ => rfl)
  · refine RfS.mk (RowR.mk e1 ?_ (by decide) (by decide) (fun c hc => ?_) ?_ (by decide) (fun i hi => absurd hi (Nat.not_lt_zero i)) (fun i hi => absurd hi (Nat.not_lt_zero i)) (fun i hi => absurd hi (Nat.not_lt_zero i))) (z2 59 3 (by decide) (by omega)) (by decide) (fun j v hv => by cases hv) (z2 59 6 (by decide) (by omega)) (by decide) (fun k hk => absurd hk (Nat.not_lt_zero k))
    · exact e2
    · rw [Nat.zero_add]; exact e3 c (Nat.lt_of_lt_of_le hc (by decide))
    · exact z2 60 51 (by decide) (by omega)
theorem law_EX (hL : Ln ≤ 1536) (xs : Nat → Int32) : EX (cal 38) 219 QL 0 (entL 9 [.ref 0]) [] (0, 0) (false, scr Ln xs) := by
  rw [hp0]
  show EX (cal 38) 219 QL 0 [some (.ref 0), none, none, none, none, none, none, none, none] [] (0, 0) (hp false 1 (lay Ln) (I0 xs) J0)
  have hZ := Zr0 (xs := xs)
  refine e_new (cs := [2, 2, 2, 2, 2, 2, 2, 2]) (p1 := 1) (p2 := 8) (mm := 2) (cx cd_219_0 rfl rfl) (by decide) rfl rfl rfl (Nat.le_of_ble_eq_true rfl) (Nat.le_of_ble_eq_true rfl) rfl hZ ?_
  refine e_dup (cx cd_219_3 rfl rfl) rfl ?_
  refine e_call (vs := [.ref 1]) (cx cd_219_4 rfl rfl) inv_i (by decide) rfl rfl (Nat.le_of_ble_eq_true rfl) (Nat.le_of_ble_eq_true rfl) (Nat.le_of_ble_eq_true rfl) trivial ?_
  refine in_80_1 (d := 31) (hZ.mono (by decide) (fun _ _ => rfl)) (fun I1 J1 f1 hb => ?_)
  refine kc_n (mm := 59) (p1 := 58) (p2 := 4830) rfl rfl rfl ?_
  have hZ1 : Zr 59 I1 J1 := fun b hb => ⟨by rw [f1.1 b (by omega)]; exact (((((((hZ.mono (by decide) (fun _ _ => rfl) : Zr 59 (I0 xs) J0).st (by decide)).st (by decide)).st (by decide)).st (by decide)).st (by decide)) b hb).1, by rw [f1.2 b (by omega)]; rfl⟩
  refine e_stRn (L' := [some (.ref 0), some (.ref 1), none, none, none, none, none, none, none]) (cx cd_219_7 rfl rfl) (Nat.le_of_ble_eq_true rfl) rfl ?_
  refine e_new (cs := [2, 2, 2, 0, 0, 2, 0, 2, 2, 0, 0, 0, 2, 0, 0, 2, 2, 2, 0, 2, 2, 2, 0, 0, 0, 0, 2, 0, 0, 1, 1]) (p1 := 59) (p2 := 4861) (mm := 60) (cx cd_219_8 rfl rfl) (by decide) rfl rfl rfl (Nat.le_of_ble_eq_true rfl) (Nat.le_of_ble_eq_true rfl) rfl hZ1 ?_
  refine e_dup (cx cd_219_11 rfl rfl) rfl ?_
  refine e_call (vs := [.ref 59]) (cx cd_219_12 rfl rfl) inv_i (by decide) rfl rfl (Nat.le_of_ble_eq_true rfl) (Nat.le_of_ble_eq_true rfl) (Nat.le_of_ble_eq_true rfl) trivial ?_
  refine in_130_59 (d := 33) (hZ1.mono (by decide) (fun _ _ => rfl)) (fun I2 f2 e1 e2 e3 => ?_)
  refine kc_n (mm := 74) (p1 := 73) (p2 := 6977) rfl rfl rfl ?_
  have hZ2 : Zr 74 I2 J1 := fun b hb => ⟨by rw [← (hZ1 b (by omega)).1]; exact funext fun k => f2 b k (by omega), (hZ1 b (by omega)).2⟩
  refine e_stRn (L' := [some (.ref 0), some (.ref 1), some (.ref 59), none, none, none, none, none, none]) (cx cd_219_15 rfl rfl) (Nat.le_of_ble_eq_true rfl) rfl ?_
  refine e_iconst (cx cd_219_16 rfl rfl) ic_1 ?_
  refine e_narr (z := 1) (kd := 1) (cs := []) (p1 := 74) (p2 := 6978) (mm := 75) (cx cd_219_17 rfl rfl) rfl rfl (Nat.le_of_ble_eq_true rfl) rfl (by decide) (Nat.le_of_ble_eq_true rfl) rfl rfl (Nat.le_of_ble_eq_true rfl) (Nat.le_of_ble_eq_true rfl) rfl hZ2 ?_
  refine e_stRn (L' := [some (.ref 0), some (.ref 1), some (.ref 59), some (.ref 74), none, none, none, none, none]) (cx cd_219_19 rfl rfl) (Nat.le_of_ble_eq_true rfl) rfl ?_
  refine e_iconst (cx cd_219_20 rfl rfl) ic_0 ?_
  refine e_stI (L' := [some (.ref 0), some (.ref 1), some (.ref 59), some (.ref 74), some (.int (Int32.ofNat 0)), none, none, none, none]) (cx cd_219_21 rfl rfl) (Nat.le_of_ble_eq_true rfl) rfl ?_
  exact law_fz (law_loop hL (Ln + 3) 0 (74, 6978) I2 J1 (by omega) (by omega) (law_S0 f1 hb f2 e1 e2 e3) (by decide) (by decide))
end LAW
