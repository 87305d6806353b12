/-! ===== the law from its first instruction ===== -/
section LAW
variable {d Ln : Nat} {Q : Post} {I : HI} {J : HJ} {u : Nat × Nat}
theorem law_8 {hs : List AE} (h : EX (cal d) 202 Q 9 [some (.ref 0), some (.ref 1), none, none, none, none, none, none, none, none] [.ref 1] u (700001, hs)) : EX (cal d) 202 Q 8 [some (.ref 0), some (.ref 1), none, none, none, none, none, none, none, none] [] u (0, hs) := by
  refine EX_in (cal_mono d) ?_
  unfold stp
  rw [cd_202_8]
  exact h
def I0 (xs : Nat → Int32) : HI := fun a => match a with
  | 0 => xs
  | _ + 1 => fun _ => 0
def J0 : HJ := fun _ _ => 0
def w0 : Wds := (0, fun _ => 0, fun _ _ => 0)
theorem hp0 {xs : Nat → Int32} : (0, scr Ln xs) = hp 0 1 (lay Ln) (I0 xs) J0 := rfl
theorem Zr0 {xs : Nat → Int32} : Zr 1 (I0 xs) J0 := by
  intro b hb
  cases b with
  | zero => exact absurd hb (by decide)
  | succ b => exact ⟨rfl, rfl⟩
theorem law_S {xs : Nat → Int32} {I1 : HI} {J1 : HJ} (f1 : BFr (stI (stI (stI (stI (stI (I0 xs) 2) 11) 17) 23) 29) J0 I1 J1) (hb : BInv 4 4 (fun _ => 46) I1 J1 (2 * (4 + 4))) : CSt I1 J1 4 4 (fun _ => 46) w0 [] 0 (fun _ => 0) := by
  have g1 : ∀ a, a ≤ 10 → I1 a = stI (I0 xs) 2 a := fun a ha => by rw [f1.1 a (by omega), st5 ha]
  have z1 : ∀ a, 4 ≤ a → a ≤ 10 → ∀ k, I1 a k = 0 := fun a ha ha2 k => by
    rw [g1 a ha2, stI_ne (by omega) (by omega), (Zr0 (xs := xs) a (by omega)).1]
  have z2 : ∀ a k, 47 ≤ a → I1 a k = 0 := fun a k ha => by
    rw [f1.1 a (by omega), stI_ne (by omega) (by omega), stI_ne (by omega) (by omega), stI_ne (by omega) (by omega), stI_ne (by omega) (by omega), stI_ne (by omega) (by omega), (Zr0 (xs := xs) a (by omega)).1]
  refine CSt.mk ?_ ?_ ?_ ?_ ?_
  · exact (st5C (I := I0 xs)).mono ((g1 2 (by decide)).trans (st5 (by decide)).symm) ((g1 3 (by decide)).trans (st5 (by decide)).symm)
  · exact WOK.mk (z1 5 (by decide) (by decide) 0) (by decide) (fun i hi => absurd hi (Nat.not_lt_zero i)) (fun i hi => absurd hi (Nat.not_lt_zero i)) (fun i hi => absurd hi (Nat.not_lt_zero i))
  · exact ⟨z1 8 (by decide) (by decide) 2, by decide, 0, by decide, z1 8 (by decide) (by decide) 3, fun j v hv => by cases hv⟩
  · exact TXT.mk (z2 57 1 (by decide)) (by decide) (fun k hk => absurd hk (Nat.not_lt_zero k))
  · exact hb
theorem law_EX (hL : Ln ≤ 260) (xs : Nat → Int32) : EX (cal 60) 202 (fun o _ => o = .inl (some (.int 1))) 0 (entL 10 [.ref 0]) [] (0, 0) (0, scr Ln xs) := by
  rw [hp0]
  show EX (cal 60) 202 _ 0 [some (.ref 0), none, none, none, none, none, none, none, none, none] [] (0, 0) (hp 0 1 (lay Ln) (I0 xs) J0)
  have hZ := Zr0 (xs := xs)
  refine e_new (cs := [2, 2, 2, 2, 2, 2, 2, 2]) (p1 := 1) (p2 := 8) (mm := 2) (cx cd_202_0 rfl rfl) (by decide) rfl rfl rfl (Nat.le_of_ble_eq_true rfl) (Nat.le_of_ble_eq_true rfl) rfl hZ ?_
  refine e_dup (cx cd_202_3 rfl rfl) rfl ?_
  refine e_call (vs := [.ref 1]) (cx cd_202_4 rfl rfl) inv_i (by decide) rfl rfl (Nat.le_of_ble_eq_true rfl) (Nat.le_of_ble_eq_true rfl) (Nat.le_of_ble_eq_true rfl) trivial ?_
  refine in_80_1 (d := 53) (hZ.mono (by decide) (fun _ _ => rfl)) (fun I1 J1 f1 hb => ?_)
  refine kc_n (mm := 59) (p1 := 58) (p2 := 4830) rfl rfl rfl ?_
  refine e_stRn (L' := [some (.ref 0), some (.ref 1), none, none, none, none, none, none, none, none]) (cx cd_202_7 rfl rfl) (Nat.le_of_ble_eq_true rfl) rfl ?_
  have hc := law_S f1 hb
  exact law_8 (l_9 (d := 14) (by omega) (fun _ => rfl) hc ⟨fun _ _ => (show (0 : Int32) ≤ 46 by decide), fun i hi => absurd hi (Nat.not_lt_zero i)⟩)
end LAW
