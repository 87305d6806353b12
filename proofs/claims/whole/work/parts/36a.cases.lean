/-! ===== the law's cases (by program, wip/whole/t8.py) ===== -/
section CAS
variable {Ln i : Nat} {I : HI} {J : HJ} {W H : Nat} {C : Cel} {w : Wds} {hs : List Sav} {t : Nat} {T : Nat → Int32} {u : Nat × Nat}
theorem lw_setSize (hc : CSt I J W H C w hs t T) (hr : RfS I W H C w hs t T) (hi : i + 3 ≤ Ln) (hL : Ln ≤ 1536) (hu1 : u.1 + 2 ≤ 601024) (hu2 : u.2 + 12 ≤ 7293034) (hnx : ∀ I' J' u', LwS I' J' → I' 0 = I 0 → u'.1 ≤ u.1 + 1 → u'.2 ≤ u.2 + 6 → HD Ln (i + 3) u' I' J') :
    EX (cal 38) 219 QL 152 [some (.ref 0), some (.ref 1), some (.ref 59), some (.ref 74), some (.int (Int32.ofNat i)), none, none, none, none] [] u (hp true 75 (lay Ln) I J) := by
  obtain ⟨xa, ya⟩ := ix1 hi hL
  obtain ⟨xb, yb⟩ := ix2 hi hL
  have hv1 : u.1 + 1 ≤ 601024 := by omega
  have hv2 : u.2 + 6 ≤ 7293034 := by omega
  refine rl_152 (d := 37) (Nat.le_refl 75) hv1 hv2 ⟨xa, xb, ?_⟩
  rw [ya, yb]
  generalize hp9 : I 0 (i + 1) = p
  generalize hq9 : I 0 (i + 2) = q
  cases b0 : (wi p 2 7 && wi q 2 7) with
  | false =>
    refine call_in (d := 37) (Nat.le_of_ble_eq_true rfl) rfl rfl (rw_202_0 (d := 37) (Nat.le_refl 75) (sp_setSize (d := 30) (Nat.le_of_ble_eq_true rfl : 59 ≤ 75) hc (fun _ => kc_x (x := 1) rfl ?_) (fun e0 => (fbt b0 e0))))
    refine kc_t (rl_169 (d := 37) (Nat.le_refl 75) (ub3 (a := 202) hu1 (Nat.le_of_ble_eq_true rfl)) (ub4 (a := 202) hu2 (Nat.le_of_ble_eq_true rfl)) ⟨xa, xb, ?_⟩)
    rw [ya, yb, hp9, hq9]
    refine sr_setSize (d := 35) (Nat.le_of_ble_eq_true rfl : 74 ≤ 75) hr (fun _ => fun I2 q2 z2 => kc_v rfl rfl (rl_187 (d := 37) (Nat.le_refl 75) (ub3 (a := 202) hu1 (Nat.le_of_ble_eq_true rfl)) (ub4 (a := 202) hu2 (Nat.le_of_ble_eq_true rfl)) ?_)) (fun e0 => (fbt b0 e0))
    refine if_y z2 (if_n (by decide) ?_)
    rw [ix3]
    exact law_kill (hnx I2 J (u.1 + bc 202, u.2 + bs 202) ⟨W, H, C, w, hs, t, T, hc.rf q2.f, hr.q q2⟩ (q2.f.1 0 (by decide)) (Nat.add_le_add_left (Nat.le_of_ble_eq_true rfl) _) (Nat.add_le_add_left (Nat.le_of_ble_eq_true rfl) _))
  | true =>
    refine call_in (d := 37) (Nat.le_of_ble_eq_true rfl) rfl rfl (rw_202_0 (d := 37) (Nat.le_refl 75) (sp_setSize (d := 30) (Nat.le_of_ble_eq_true rfl : 59 ≤ 75) hc (fun e0 => (tbf b0 e0)) (fun _ => fun I1 J1 cf c1 => kc_t (rw_202_1 (Nat.le_refl 75) ⟨v01, ?_⟩))))
    have hr1 := hr.cl cf
    have i1 : I1 0 = I 0 := cf.1 0 (by omega)
    refine kc_t (rl_169 (d := 37) (Nat.le_refl 75) (ub3 (a := 202) hu1 (Nat.le_of_ble_eq_true rfl)) (ub4 (a := 202) hu2 (Nat.le_of_ble_eq_true rfl)) ⟨xa, xb, ?_⟩)
    rw [ya, yb, i1, hp9, hq9]
    refine sr_setSize (d := 35) (Nat.le_of_ble_eq_true rfl : 74 ≤ 75) hr1 (fun e0 => (tbf b0 e0)) (fun _ => fun I2 g2 r2 z2 => kc_v rfl rfl (rl_187 (d := 37) (Nat.le_refl 75) (ub3 (a := 202) hu1 (Nat.le_of_ble_eq_true rfl)) (ub4 (a := 202) hu2 (Nat.le_of_ble_eq_true rfl)) ?_))
    refine if_y z2 (if_y rfl (if_y ((cmp1 _ _).mpr ?_) ?_))
    · exact (by rw [x2_at, if_pos ⟨rfl, rfl⟩])
    · rw [ix3]
      exact law_kill (hnx I2 _ (u.1 + bc 202, u.2 + bs 202) ⟨_, _, _, _, _, _, _, c1.out.rf g2, r2⟩ ((g2.1 0 (by decide)).trans i1) (Nat.add_le_add_left (Nat.le_of_ble_eq_true rfl) _) (Nat.add_le_add_left (Nat.le_of_ble_eq_true rfl) _))
theorem lw_setCell (hc : CSt I J W H C w hs t T) (hr : RfS I W H C w hs t T) (hi : i + 3 ≤ Ln) (hL : Ln ≤ 1536) (hu1 : u.1 + 2 ≤ 601024) (hu2 : u.2 + 12 ≤ 7293034) (hnx : ∀ I' J' u', LwS I' J' → I' 0 = I 0 → u'.1 ≤ u.1 + 1 → u'.2 ≤ u.2 + 6 → HD Ln (i + 3) u' I' J') :
    EX (cal 38) 219 QL 220 [some (.ref 0), some (.ref 1), some (.ref 59), some (.ref 74), some (.int (Int32.ofNat i)), none, none, none, none] [] u (hp true 75 (lay Ln) I J) := by
  obtain ⟨xa, ya⟩ := ix1 hi hL
  obtain ⟨xb, yb⟩ := ix2 hi hL
  have hv1 : u.1 + 1 ≤ 601024 := by omega
  have hv2 : u.2 + 6 ≤ 7293034 := by omega
  refine rl_220 (d := 37) (Nat.le_refl 75) hv1 hv2 ⟨xa, xb, ?_⟩
  rw [ya, yb]
  generalize hp9 : I 0 (i + 1) = p
  generalize hq9 : I 0 (i + 2) = q
  cases b0 : inN p (W * H) with
  | false =>
    refine call_in (d := 37) (Nat.le_of_ble_eq_true rfl) rfl rfl (rw_203_0 (d := 37) (Nat.le_refl 75) (sp_setCell (d := 30) (Nat.le_of_ble_eq_true rfl : 59 ≤ 75) hc (fun _ => kc_x (x := 1) rfl ?_) (fun e0 e1 => (fbt b0 e0)) (fun e0 e1 => (fbt b0 e0))))
    refine kc_t (rl_237 (d := 37) (Nat.le_refl 75) (ub3 (a := 203) hu1 (Nat.le_of_ble_eq_true rfl)) (ub4 (a := 203) hu2 (Nat.le_of_ble_eq_true rfl)) ⟨xa, xb, ?_⟩)
    rw [ya, yb, hp9, hq9]
    refine sr_setCell (d := 35) (Nat.le_of_ble_eq_true rfl : 74 ≤ 75) hr (fun _ => fun I2 q2 z2 => kc_v rfl rfl (rl_255 (d := 37) (Nat.le_refl 75) (ub3 (a := 203) hu1 (Nat.le_of_ble_eq_true rfl)) (ub4 (a := 203) hu2 (Nat.le_of_ble_eq_true rfl)) ?_)) (fun e0 e1 => (fbt b0 e0)) (fun e0 e1 => (fbt b0 e0))
    refine if_y z2 (if_n (by decide) ?_)
    rw [ix3]
    exact law_kill (hnx I2 J (u.1 + bc 203, u.2 + bs 203) ⟨W, H, C, w, hs, t, T, hc.rf q2.f, hr.q q2⟩ (q2.f.1 0 (by decide)) (Nat.add_le_add_left (Nat.le_of_ble_eq_true rfl) _) (Nat.add_le_add_left (Nat.le_of_ble_eq_true rfl) _))
  | true =>
    cases b1 : isOB q with
    | false =>
      refine call_in (d := 37) (Nat.le_of_ble_eq_true rfl) rfl rfl (rw_203_0 (d := 37) (Nat.le_refl 75) (sp_setCell (d := 30) (Nat.le_of_ble_eq_true rfl : 59 ≤ 75) hc (fun e0 => (tbf b0 e0)) (fun _ _ => kc_x (x := 2) rfl ?_) (fun e0 e1 => (fbt b1 e1))))
      refine kc_t (rl_237 (d := 37) (Nat.le_refl 75) (ub3 (a := 203) hu1 (Nat.le_of_ble_eq_true rfl)) (ub4 (a := 203) hu2 (Nat.le_of_ble_eq_true rfl)) ⟨xa, xb, ?_⟩)
      rw [ya, yb, hp9, hq9]
      refine sr_setCell (d := 35) (Nat.le_of_ble_eq_true rfl : 74 ≤ 75) hr (fun e0 => (tbf b0 e0)) (fun _ _ => fun I2 q2 z2 => kc_v rfl rfl (rl_255 (d := 37) (Nat.le_refl 75) (ub3 (a := 203) hu1 (Nat.le_of_ble_eq_true rfl)) (ub4 (a := 203) hu2 (Nat.le_of_ble_eq_true rfl)) ?_)) (fun e0 e1 => (fbt b1 e1))
      refine if_y z2 (if_n (by decide) ?_)
      rw [ix3]
      exact law_kill (hnx I2 J (u.1 + bc 203, u.2 + bs 203) ⟨W, H, C, w, hs, t, T, hc.rf q2.f, hr.q q2⟩ (q2.f.1 0 (by decide)) (Nat.add_le_add_left (Nat.le_of_ble_eq_true rfl) _) (Nat.add_le_add_left (Nat.le_of_ble_eq_true rfl) _))
    | true =>
      refine call_in (d := 37) (Nat.le_of_ble_eq_true rfl) rfl rfl (rw_203_0 (d := 37) (Nat.le_refl 75) (sp_setCell (d := 30) (Nat.le_of_ble_eq_true rfl : 59 ≤ 75) hc (fun e0 => (tbf b0 e0)) (fun e0 e1 => (tbf b1 e1)) (fun _ _ => fun I1 J1 cf c1 => kc_t (rw_203_1 (Nat.le_refl 75) ⟨v01, ?_⟩))))
      have hr1 := hr.cl cf
      have i1 : I1 0 = I 0 := cf.1 0 (by omega)
      refine kc_t (rl_237 (d := 37) (Nat.le_refl 75) (ub3 (a := 203) hu1 (Nat.le_of_ble_eq_true rfl)) (ub4 (a := 203) hu2 (Nat.le_of_ble_eq_true rfl)) ⟨xa, xb, ?_⟩)
      rw [ya, yb, i1, hp9, hq9]
      refine sr_setCell (d := 35) (Nat.le_of_ble_eq_true rfl : 74 ≤ 75) hr1 (fun e0 => (tbf b0 e0)) (fun e0 e1 => (tbf b1 e1)) (fun _ _ => fun I2 g2 r2 z2 => kc_v rfl rfl (rl_255 (d := 37) (Nat.le_refl 75) (ub3 (a := 203) hu1 (Nat.le_of_ble_eq_true rfl)) (ub4 (a := 203) hu2 (Nat.le_of_ble_eq_true rfl)) ?_))
      refine if_y z2 (if_y rfl (if_y ((cmp1 _ _).mpr ?_) ?_))
      · exact (by rw [x2_at, if_pos ⟨rfl, rfl⟩])
      · rw [ix3]
        exact law_kill (hnx I2 _ (u.1 + bc 203, u.2 + bs 203) ⟨_, _, _, _, _, _, _, c1.out.rf g2, r2⟩ ((g2.1 0 (by decide)).trans i1) (Nat.add_le_add_left (Nat.le_of_ble_eq_true rfl) _) (Nat.add_le_add_left (Nat.le_of_ble_eq_true rfl) _))
theorem lw_turnCorners (hc : CSt I J W H C w hs t T) (hr : RfS I W H C w hs t T) (hi : i + 3 ≤ Ln) (hL : Ln ≤ 1536) (hu1 : u.1 + 2 ≤ 601024) (hu2 : u.2 + 12 ≤ 7293034) (hnx : ∀ I' J' u', LwS I' J' → I' 0 = I 0 → u'.1 ≤ u.1 + 1 → u'.2 ≤ u.2 + 6 → HD Ln (i + 3) u' I' J') :
    EX (cal 38) 219 QL 288 [some (.ref 0), some (.ref 1), some (.ref 59), some (.ref 74), some (.int (Int32.ofNat i)), none, none, none, none] [] u (hp true 75 (lay Ln) I J) := by
  obtain ⟨xa, ya⟩ := ix1 hi hL
  obtain ⟨xb, yb⟩ := ix2 hi hL
  have hv1 : u.1 + 1 ≤ 601024 := by omega
  have hv2 : u.2 + 6 ≤ 7293034 := by omega
  refine rl_288 (d := 37) (Nat.le_refl 75) hv1 hv2 (sp_turnCorners (d := 31) (Nat.le_of_ble_eq_true rfl : 59 ≤ 75) hc (fun I1 J1 cf c1 => kc_v rfl rfl (rl_292 (d := 37) (Nat.le_refl 75) hv1 hv2 ?_)))
  have hr1 := hr.cl cf
  refine sr_turnCorners (d := 35) (Nat.le_of_ble_eq_true rfl : 74 ≤ 75) hr1 (fun I2 g2 r2 => kc_v rfl rfl (rl_296 (d := 37) (Nat.le_refl 75) hv1 hv2 ?_))
  refine if_y rfl ?_
  rw [ix3]
  exact law_kill (hnx I2 J1 u ⟨_, _, _, _, _, _, _, c1.rf g2, r2⟩ ((g2.1 0 (by decide)).trans (cf.1 0 (by omega))) (by omega) (by omega))
theorem lw_turnStone (hc : CSt I J W H C w hs t T) (hr : RfS I W H C w hs t T) (hi : i + 3 ≤ Ln) (hL : Ln ≤ 1536) (hu1 : u.1 + 2 ≤ 601024) (hu2 : u.2 + 12 ≤ 7293034) (hnx : ∀ I' J' u', LwS I' J' → I' 0 = I 0 → u'.1 ≤ u.1 + 1 → u'.2 ≤ u.2 + 6 → HD Ln (i + 3) u' I' J') :
    EX (cal 38) 219 QL 301 [some (.ref 0), some (.ref 1), some (.ref 59), some (.ref 74), some (.int (Int32.ofNat i)), none, none, none, none] [] u (hp true 75 (lay Ln) I J) := by
  obtain ⟨xa, ya⟩ := ix1 hi hL
  obtain ⟨xb, yb⟩ := ix2 hi hL
  have hv1 : u.1 + 1 ≤ 601024 := by omega
  have hv2 : u.2 + 6 ≤ 7293034 := by omega
  refine rl_301 (d := 37) (Nat.le_refl 75) hv1 hv2 (sp_turnStone (d := 31) (Nat.le_of_ble_eq_true rfl : 59 ≤ 75) hc (fun I1 J1 cf c1 => kc_v rfl rfl (rl_305 (d := 37) (Nat.le_refl 75) hv1 hv2 ?_)))
  have hr1 := hr.cl cf
  refine sr_turnStone (d := 35) (Nat.le_of_ble_eq_true rfl : 74 ≤ 75) hr1 (fun I2 g2 r2 => kc_v rfl rfl (rl_309 (d := 37) (Nat.le_refl 75) hv1 hv2 ?_))
  refine if_y rfl ?_
  rw [ix3]
  exact law_kill (hnx I2 J1 u ⟨_, _, _, _, _, _, _, c1.rf g2, r2⟩ ((g2.1 0 (by decide)).trans (cf.1 0 (by omega))) (by omega) (by omega))
theorem lw_addWord (hc : CSt I J W H C w hs t T) (hr : RfS I W H C w hs t T) (hi : i + 3 ≤ Ln) (hL : Ln ≤ 1536) (hu1 : u.1 + 2 ≤ 601024) (hu2 : u.2 + 12 ≤ 7293034) (hnx : ∀ I' J' u', LwS I' J' → I' 0 = I 0 → u'.1 ≤ u.1 + 1 → u'.2 ≤ u.2 + 6 → HD Ln (i + 3) u' I' J') :
    EX (cal 38) 219 QL 314 [some (.ref 0), some (.ref 1), some (.ref 59), some (.ref 74), some (.int (Int32.ofNat i)), none, none, none, none] [] u (hp true 75 (lay Ln) I J) := by
  obtain ⟨xa, ya⟩ := ix1 hi hL
  obtain ⟨xb, yb⟩ := ix2 hi hL
  have hv1 : u.1 + 1 ≤ 601024 := by omega
  have hv2 : u.2 + 6 ≤ 7293034 := by omega
  refine rl_314 (d := 37) (Nat.le_refl 75) hv1 hv2 ?_
  cases b0 : canW w t T with
  | false =>
    refine call_in (d := 37) (Nat.le_of_ble_eq_true rfl) rfl rfl (rw_204_0 (d := 37) (Nat.le_refl 75) (sp_addWord (d := 31) (Nat.le_of_ble_eq_true rfl : 59 ≤ 75) hc (fun _ => kc_x (x := 1) rfl ?_) (fun e0 => (fbt b0 e0))))
    refine kc_t (rl_319 (d := 37) (Nat.le_refl 75) (ub3 (a := 204) hu1 (Nat.le_of_ble_eq_true rfl)) (ub4 (a := 204) hu2 (Nat.le_of_ble_eq_true rfl)) ?_)
    refine sr_addWord (d := 35) (Nat.le_of_ble_eq_true rfl : 74 ≤ 75) hr (fun _ => fun I2 q2 z2 => kc_v rfl rfl (rl_325 (d := 37) (Nat.le_refl 75) (ub3 (a := 204) hu1 (Nat.le_of_ble_eq_true rfl)) (ub4 (a := 204) hu2 (Nat.le_of_ble_eq_true rfl)) ?_)) (fun e0 => (fbt b0 e0))
    refine if_y z2 (if_n (by decide) ?_)
    rw [ix3]
    exact law_kill (hnx I2 J (u.1 + bc 204, u.2 + bs 204) ⟨W, H, C, w, hs, t, T, hc.rf q2.f, hr.q q2⟩ (q2.f.1 0 (by decide)) (Nat.add_le_add_left (Nat.le_of_ble_eq_true rfl) _) (Nat.add_le_add_left (Nat.le_of_ble_eq_true rfl) _))
  | true =>
    refine call_in (d := 37) (Nat.le_of_ble_eq_true rfl) rfl rfl (rw_204_0 (d := 37) (Nat.le_refl 75) (sp_addWord (d := 31) (Nat.le_of_ble_eq_true rfl : 59 ≤ 75) hc (fun e0 => (tbf b0 e0)) (fun _ => fun I1 J1 cf c1 => kc_t (rw_204_1 (Nat.le_refl 75) ⟨v01, ?_⟩))))
    have hr1 := hr.cl cf
    have i1 : I1 0 = I 0 := cf.1 0 (by omega)
    refine kc_t (rl_319 (d := 37) (Nat.le_refl 75) (ub3 (a := 204) hu1 (Nat.le_of_ble_eq_true rfl)) (ub4 (a := 204) hu2 (Nat.le_of_ble_eq_true rfl)) ?_)
    refine sr_addWord (d := 35) (Nat.le_of_ble_eq_true rfl : 74 ≤ 75) hr1 (fun e0 => (tbf b0 e0)) (fun _ => fun I2 g2 r2 z2 => kc_v rfl rfl (rl_325 (d := 37) (Nat.le_refl 75) (ub3 (a := 204) hu1 (Nat.le_of_ble_eq_true rfl)) (ub4 (a := 204) hu2 (Nat.le_of_ble_eq_true rfl)) ?_))
    refine if_y z2 (if_y rfl (if_y ((cmp1 _ _).mpr ?_) ?_))
    · exact (by rw [x2_at, if_pos ⟨rfl, rfl⟩])
    · rw [ix3]
      exact law_kill (hnx I2 _ (u.1 + bc 204, u.2 + bs 204) ⟨_, _, _, _, _, _, _, c1.out.rf g2, r2⟩ ((g2.1 0 (by decide)).trans i1) (Nat.add_le_add_left (Nat.le_of_ble_eq_true rfl) _) (Nat.add_le_add_left (Nat.le_of_ble_eq_true rfl) _))
theorem lw_removeWord (hc : CSt I J W H C w hs t T) (hr : RfS I W H C w hs t T) (hi : i + 3 ≤ Ln) (hL : Ln ≤ 1536) (hu1 : u.1 + 2 ≤ 601024) (hu2 : u.2 + 12 ≤ 7293034) (hnx : ∀ I' J' u', LwS I' J' → I' 0 = I 0 → u'.1 ≤ u.1 + 1 → u'.2 ≤ u.2 + 6 → HD Ln (i + 3) u' I' J') :
    EX (cal 38) 219 QL 358 [some (.ref 0), some (.ref 1), some (.ref 59), some (.ref 74), some (.int (Int32.ofNat i)), none, none, none, none] [] u (hp true 75 (lay Ln) I J) := by
  obtain ⟨xa, ya⟩ := ix1 hi hL
  obtain ⟨xb, yb⟩ := ix2 hi hL
  have hv1 : u.1 + 1 ≤ 601024 := by omega
  have hv2 : u.2 + 6 ≤ 7293034 := by omega
  refine rl_358 (d := 37) (Nat.le_refl 75) hv1 hv2 ⟨xa, ?_⟩
  rw [ya]
  generalize hp9 : I 0 (i + 1) = p
  cases b0 : inN p w.1 with
  | false =>
    refine call_in (d := 37) (Nat.le_of_ble_eq_true rfl) rfl rfl (rw_205_0 (d := 37) (Nat.le_refl 75) (sp_removeWord (d := 32) (Nat.le_of_ble_eq_true rfl : 59 ≤ 75) hc (fun _ => kc_x (x := 1) rfl ?_) (fun e0 => (fbt b0 e0))))
    refine kc_t (rl_369 (d := 37) (Nat.le_refl 75) (ub3 (a := 205) hu1 (Nat.le_of_ble_eq_true rfl)) (ub4 (a := 205) hu2 (Nat.le_of_ble_eq_true rfl)) ⟨xa, ?_⟩)
    rw [ya, hp9]
    refine sr_removeWord (d := 35) (Nat.le_of_ble_eq_true rfl : 74 ≤ 75) hr (fun _ => fun I2 q2 z2 => kc_v rfl rfl (rl_381 (d := 37) (Nat.le_refl 75) (ub3 (a := 205) hu1 (Nat.le_of_ble_eq_true rfl)) (ub4 (a := 205) hu2 (Nat.le_of_ble_eq_true rfl)) ?_)) (fun e0 => (fbt b0 e0))
    refine if_y z2 (if_n (by decide) ?_)
    rw [ix3]
    exact law_kill (hnx I2 J (u.1 + bc 205, u.2 + bs 205) ⟨W, H, C, w, hs, t, T, hc.rf q2.f, hr.q q2⟩ (q2.f.1 0 (by decide)) (Nat.add_le_add_left (Nat.le_of_ble_eq_true rfl) _) (Nat.add_le_add_left (Nat.le_of_ble_eq_true rfl) _))
  | true =>
    refine call_in (d := 37) (Nat.le_of_ble_eq_true rfl) rfl rfl (rw_205_0 (d := 37) (Nat.le_refl 75) (sp_removeWord (d := 32) (Nat.le_of_ble_eq_true rfl : 59 ≤ 75) hc (fun e0 => (tbf b0 e0)) (fun _ => fun I1 J1 cf c1 => kc_t (rw_205_1 (Nat.le_refl 75) ⟨v01, ?_⟩))))
    have hr1 := hr.cl cf
    have i1 : I1 0 = I 0 := cf.1 0 (by omega)
    refine kc_t (rl_369 (d := 37) (Nat.le_refl 75) (ub3 (a := 205) hu1 (Nat.le_of_ble_eq_true rfl)) (ub4 (a := 205) hu2 (Nat.le_of_ble_eq_true rfl)) ⟨xa, ?_⟩)
    rw [ya, i1, hp9]
    refine sr_removeWord (d := 35) (Nat.le_of_ble_eq_true rfl : 74 ≤ 75) hr1 (fun e0 => (tbf b0 e0)) (fun _ => fun I2 g2 r2 z2 => kc_v rfl rfl (rl_381 (d := 37) (Nat.le_refl 75) (ub3 (a := 205) hu1 (Nat.le_of_ble_eq_true rfl)) (ub4 (a := 205) hu2 (Nat.le_of_ble_eq_true rfl)) ?_))
    refine if_y z2 (if_y rfl (if_y ((cmp1 _ _).mpr ?_) ?_))
    · exact (by rw [x2_at, if_pos ⟨rfl, rfl⟩])
    · rw [ix3]
      exact law_kill (hnx I2 _ (u.1 + bc 205, u.2 + bs 205) ⟨_, _, _, _, _, _, _, c1.out.rf g2, r2⟩ ((g2.1 0 (by decide)).trans i1) (Nat.add_le_add_left (Nat.le_of_ble_eq_true rfl) _) (Nat.add_le_add_left (Nat.le_of_ble_eq_true rfl) _))
theorem lw_cell (hc : CSt I J W H C w hs t T) (hr : RfS I W H C w hs t T) (hi : i + 3 ≤ Ln) (hL : Ln ≤ 1536) (hu1 : u.1 + 2 ≤ 601024) (hu2 : u.2 + 12 ≤ 7293034) (hnx : ∀ I' J' u', LwS I' J' → I' 0 = I 0 → u'.1 ≤ u.1 + 1 → u'.2 ≤ u.2 + 6 → HD Ln (i + 3) u' I' J') :
    EX (cal 38) 219 QL 414 [some (.ref 0), some (.ref 1), some (.ref 59), some (.ref 74), some (.int (Int32.ofNat i)), none, none, none, none] [] u (hp true 75 (lay Ln) I J) := by
  obtain ⟨xa, ya⟩ := ix1 hi hL
  obtain ⟨xb, yb⟩ := ix2 hi hL
  have hv1 : u.1 + 1 ≤ 601024 := by omega
  have hv2 : u.2 + 6 ≤ 7293034 := by omega
  refine rl_414 (d := 37) (Nat.le_refl 75) hv1 hv2 ⟨xa, xb, ?_⟩
  rw [ya, yb]
  generalize hp9 : I 0 (i + 1) = p
  generalize hq9 : I 0 (i + 2) = q
  cases b0 : inN p (W * H) with
  | false =>
    refine call_in (d := 37) (Nat.le_of_ble_eq_true rfl) rfl rfl (rw_206_0 (d := 37) (Nat.le_refl 75) (sp_cell (d := 32) (Nat.le_of_ble_eq_true rfl : 59 ≤ 75) hc (fun _ => kc_x (x := 1) rfl ?_) (fun e0 e1 => (fbt b0 e0)) (fun e0 e1 => (fbt b0 e0))))
    refine kc_t (rl_431 (d := 37) (Nat.le_refl 75) (ub3 (a := 206) hu1 (Nat.le_of_ble_eq_true rfl)) (ub4 (a := 206) hu2 (Nat.le_of_ble_eq_true rfl)) ⟨xa, xb, ?_⟩)
    rw [ya, yb, hp9, hq9]
    refine sr_cell (d := 33) (Nat.le_of_ble_eq_true rfl : 74 ≤ 75) hr (fun _ => fun I2 q2 z2 => kc_v rfl rfl (rl_449 (d := 37) (Nat.le_refl 75) (ub3 (a := 206) hu1 (Nat.le_of_ble_eq_true rfl)) (ub4 (a := 206) hu2 (Nat.le_of_ble_eq_true rfl)) ?_)) (fun e0 e1 => (fbt b0 e0)) (fun e0 e1 => (fbt b0 e0))
    refine if_y z2 (if_n (by decide) ?_)
    rw [ix3]
    exact law_kill (hnx I2 J (u.1 + bc 206, u.2 + bs 206) ⟨W, H, C, w, hs, t, T, hc.rf q2.f, hr.q q2⟩ (q2.f.1 0 (by decide)) (Nat.add_le_add_left (Nat.le_of_ble_eq_true rfl) _) (Nat.add_le_add_left (Nat.le_of_ble_eq_true rfl) _))
  | true =>
    cases b1 : wi q 0 4 with
    | false =>
      refine call_in (d := 37) (Nat.le_of_ble_eq_true rfl) rfl rfl (rw_206_0 (d := 37) (Nat.le_refl 75) (sp_cell (d := 32) (Nat.le_of_ble_eq_true rfl : 59 ≤ 75) hc (fun e0 => (tbf b0 e0)) (fun _ _ => kc_x (x := 2) rfl ?_) (fun e0 e1 => (fbt b1 e1))))
      refine kc_t (rl_431 (d := 37) (Nat.le_refl 75) (ub3 (a := 206) hu1 (Nat.le_of_ble_eq_true rfl)) (ub4 (a := 206) hu2 (Nat.le_of_ble_eq_true rfl)) ⟨xa, xb, ?_⟩)
      rw [ya, yb, hp9, hq9]
      refine sr_cell (d := 33) (Nat.le_of_ble_eq_true rfl : 74 ≤ 75) hr (fun e0 => (tbf b0 e0)) (fun _ _ => fun I2 q2 z2 => kc_v rfl rfl (rl_449 (d := 37) (Nat.le_refl 75) (ub3 (a := 206) hu1 (Nat.le_of_ble_eq_true rfl)) (ub4 (a := 206) hu2 (Nat.le_of_ble_eq_true rfl)) ?_)) (fun e0 e1 => (fbt b1 e1))
      refine if_y z2 (if_n (by decide) ?_)
      rw [ix3]
      exact law_kill (hnx I2 J (u.1 + bc 206, u.2 + bs 206) ⟨W, H, C, w, hs, t, T, hc.rf q2.f, hr.q q2⟩ (q2.f.1 0 (by decide)) (Nat.add_le_add_left (Nat.le_of_ble_eq_true rfl) _) (Nat.add_le_add_left (Nat.le_of_ble_eq_true rfl) _))
    | true =>
      refine call_in (d := 37) (Nat.le_of_ble_eq_true rfl) rfl rfl (rw_206_0 (d := 37) (Nat.le_refl 75) (sp_cell (d := 32) (Nat.le_of_ble_eq_true rfl : 59 ≤ 75) hc (fun e0 => (tbf b0 e0)) (fun e0 e1 => (tbf b1 e1)) (fun _ _ => kc_t (rw_206_1 (Nat.le_refl 75) ⟨v01, ?_⟩))))
      have cf : ClF I J I J := ClF.rf I J
      have c1 := hc
      have hr1 := hr.cl cf
      have i1 : I 0 = I 0 := cf.1 0 (by omega)
      refine kc_t (rl_431 (d := 37) (Nat.le_refl 75) (ub3 (a := 206) hu1 (Nat.le_of_ble_eq_true rfl)) (ub4 (a := 206) hu2 (Nat.le_of_ble_eq_true rfl)) ⟨xa, xb, ?_⟩)
      rw [ya, yb, i1, hp9, hq9]
      refine sr_cell (d := 33) (Nat.le_of_ble_eq_true rfl : 74 ≤ 75) hr1 (fun e0 => (tbf b0 e0)) (fun e0 e1 => (tbf b1 e1)) (fun _ _ => fun I2 q2 z2 => kc_v rfl rfl (rl_449 (d := 37) (Nat.le_refl 75) (ub3 (a := 206) hu1 (Nat.le_of_ble_eq_true rfl)) (ub4 (a := 206) hu2 (Nat.le_of_ble_eq_true rfl)) ?_))
      have g2 := q2.f
      have r2 := hr1.q q2
      refine if_y z2 (if_y rfl (if_y ((cmp1 _ _).mpr ?_) ?_))
      · exact (by rw [x2_at, if_pos ⟨rfl, rfl⟩])
      · rw [ix3]
        exact law_kill (hnx I2 _ (u.1 + bc 206, u.2 + bs 206) ⟨_, _, _, _, _, _, _, c1.out.rf g2, r2⟩ ((g2.1 0 (by decide)).trans i1) (Nat.add_le_add_left (Nat.le_of_ble_eq_true rfl) _) (Nat.add_le_add_left (Nat.le_of_ble_eq_true rfl) _))
theorem lw_value (hc : CSt I J W H C w hs t T) (hr : RfS I W H C w hs t T) (hi : i + 3 ≤ Ln) (hL : Ln ≤ 1536) (hu1 : u.1 + 2 ≤ 601024) (hu2 : u.2 + 12 ≤ 7293034) (hnx : ∀ I' J' u', LwS I' J' → I' 0 = I 0 → u'.1 ≤ u.1 + 1 → u'.2 ≤ u.2 + 6 → HD Ln (i + 3) u' I' J') :
    EX (cal 38) 219 QL 482 [some (.ref 0), some (.ref 1), some (.ref 59), some (.ref 74), some (.int (Int32.ofNat i)), none, none, none, none] [] u (hp true 75 (lay Ln) I J) := by
  obtain ⟨xa, ya⟩ := ix1 hi hL
  obtain ⟨xb, yb⟩ := ix2 hi hL
  have hv1 : u.1 + 1 ≤ 601024 := by omega
  have hv2 : u.2 + 6 ≤ 7293034 := by omega
  refine rl_482 (d := 37) (Nat.le_refl 75) hv1 hv2 ⟨xa, ?_⟩
  rw [ya]
  generalize hp9 : I 0 (i + 1) = p
  cases b0 : wi p 0 9 with
  | false =>
    refine call_in (d := 37) (Nat.le_of_ble_eq_true rfl) rfl rfl (rw_207_0 (d := 37) (Nat.le_refl 75) (sp_value (d := 30) (Nat.le_of_ble_eq_true rfl : 59 ≤ 75) hc (fun _ => kc_x (x := 1) rfl ?_) (fun e0 => (fbt b0 e0))))
    refine kc_t (rl_493 (d := 37) (Nat.le_refl 75) (ub3 (a := 207) hu1 (Nat.le_of_ble_eq_true rfl)) (ub4 (a := 207) hu2 (Nat.le_of_ble_eq_true rfl)) ⟨xa, ?_⟩)
    rw [ya, hp9]
    refine sr_value (d := 32) (Nat.le_of_ble_eq_true rfl : 74 ≤ 75) hr (fun _ => fun I2 q2 z2 => kc_v rfl rfl (rl_505 (d := 37) (Nat.le_refl 75) (ub3 (a := 207) hu1 (Nat.le_of_ble_eq_true rfl)) (ub4 (a := 207) hu2 (Nat.le_of_ble_eq_true rfl)) ?_)) (fun e0 => (fbt b0 e0))
    refine if_y z2 (if_n (by decide) ?_)
    rw [ix3]
    exact law_kill (hnx I2 J (u.1 + bc 207, u.2 + bs 207) ⟨W, H, C, w, hs, t, T, hc.rf q2.f, hr.q q2⟩ (q2.f.1 0 (by decide)) (Nat.add_le_add_left (Nat.le_of_ble_eq_true rfl) _) (Nat.add_le_add_left (Nat.le_of_ble_eq_true rfl) _))
  | true =>
    refine call_in (d := 37) (Nat.le_of_ble_eq_true rfl) rfl rfl (rw_207_0 (d := 37) (Nat.le_refl 75) (sp_value (d := 30) (Nat.le_of_ble_eq_true rfl : 59 ≤ 75) hc (fun e0 => (tbf b0 e0)) (fun _ => kc_t (rw_207_1 (Nat.le_refl 75) ⟨v01, ?_⟩))))
    have cf : ClF I J I J := ClF.rf I J
    have c1 := hc
    have hr1 := hr.cl cf
    have i1 : I 0 = I 0 := cf.1 0 (by omega)
    refine kc_t (rl_493 (d := 37) (Nat.le_refl 75) (ub3 (a := 207) hu1 (Nat.le_of_ble_eq_true rfl)) (ub4 (a := 207) hu2 (Nat.le_of_ble_eq_true rfl)) ⟨xa, ?_⟩)
    rw [ya, i1, hp9]
    refine sr_value (d := 32) (Nat.le_of_ble_eq_true rfl : 74 ≤ 75) hr1 (fun e0 => (tbf b0 e0)) (fun _ => fun I2 q2 z2 => kc_v rfl rfl (rl_505 (d := 37) (Nat.le_refl 75) (ub3 (a := 207) hu1 (Nat.le_of_ble_eq_true rfl)) (ub4 (a := 207) hu2 (Nat.le_of_ble_eq_true rfl)) ?_))
    have g2 := q2.f
    have r2 := hr1.q q2
    refine if_y z2 (if_y rfl (if_y ((cmp1 _ _).mpr ?_) ?_))
    · exact (by rw [x2_at, if_pos ⟨rfl, rfl⟩])
    · rw [ix3]
      exact law_kill (hnx I2 _ (u.1 + bc 207, u.2 + bs 207) ⟨_, _, _, _, _, _, _, c1.out.rf g2, r2⟩ ((g2.1 0 (by decide)).trans i1) (Nat.add_le_add_left (Nat.le_of_ble_eq_true rfl) _) (Nat.add_le_add_left (Nat.le_of_ble_eq_true rfl) _))
theorem lw_word (hc : CSt I J W H C w hs t T) (hr : RfS I W H C w hs t T) (hi : i + 3 ≤ Ln) (hL : Ln ≤ 1536) (hu1 : u.1 + 2 ≤ 601024) (hu2 : u.2 + 12 ≤ 7293034) (hnx : ∀ I' J' u', LwS I' J' → I' 0 = I 0 → u'.1 ≤ u.1 + 1 → u'.2 ≤ u.2 + 6 → HD Ln (i + 3) u' I' J') :
    EX (cal 38) 219 QL 538 [some (.ref 0), some (.ref 1), some (.ref 59), some (.ref 74), some (.int (Int32.ofNat i)), none, none, none, none] [] u (hp true 75 (lay Ln) I J) := by
  obtain ⟨xa, ya⟩ := ix1 hi hL
  obtain ⟨xb, yb⟩ := ix2 hi hL
  have hv1 : u.1 + 1 ≤ 601024 := by omega
  have hv2 : u.2 + 6 ≤ 7293034 := by omega
  refine rl_538 (d := 37) (Nat.le_refl 75) hv1 hv2 ⟨xa, xb, ?_⟩
  rw [ya, yb]
  generalize hp9 : I 0 (i + 1) = p
  generalize hq9 : I 0 (i + 2) = q
  cases b0 : (inN p w.1 && decide (0 ≤ q)) with
  | false =>
    refine call_in (d := 37) (Nat.le_of_ble_eq_true rfl) rfl rfl (rw_208_0 (d := 37) (Nat.le_refl 75) (sp_word (d := 33) (Nat.le_of_ble_eq_true rfl : 59 ≤ 75) hc (fun _ => kc_x (x := 1) rfl ?_) (fun e0 => (fbt b0 e0))))
    refine kc_t (rl_555 (d := 37) (Nat.le_refl 75) (ub3 (a := 208) hu1 (Nat.le_of_ble_eq_true rfl)) (ub4 (a := 208) hu2 (Nat.le_of_ble_eq_true rfl)) ⟨xa, xb, ?_⟩)
    rw [ya, yb, hp9, hq9]
    refine sr_word (d := 35) (Nat.le_of_ble_eq_true rfl : 74 ≤ 75) hr (fun _ => fun I2 q2 z2 => kc_v rfl rfl (rl_573 (d := 37) (Nat.le_refl 75) (ub3 (a := 208) hu1 (Nat.le_of_ble_eq_true rfl)) (ub4 (a := 208) hu2 (Nat.le_of_ble_eq_true rfl)) ?_)) (fun e0 => (fbt b0 e0))
    refine if_y z2 (if_n (by decide) ?_)
    rw [ix3]
    exact law_kill (hnx I2 J (u.1 + bc 208, u.2 + bs 208) ⟨W, H, C, w, hs, t, T, hc.rf q2.f, hr.q q2⟩ (q2.f.1 0 (by decide)) (Nat.add_le_add_left (Nat.le_of_ble_eq_true rfl) _) (Nat.add_le_add_left (Nat.le_of_ble_eq_true rfl) _))
  | true =>
    refine call_in (d := 37) (Nat.le_of_ble_eq_true rfl) rfl rfl (rw_208_0 (d := 37) (Nat.le_refl 75) (sp_word (d := 33) (Nat.le_of_ble_eq_true rfl : 59 ≤ 75) hc (fun e0 => (tbf b0 e0)) (fun _ => kc_t (rw_208_1 (Nat.le_refl 75) ⟨v01, ?_⟩))))
    have cf : ClF I J I J := ClF.rf I J
    have c1 := hc
    have hr1 := hr.cl cf
    have i1 : I 0 = I 0 := cf.1 0 (by omega)
    refine kc_t (rl_555 (d := 37) (Nat.le_refl 75) (ub3 (a := 208) hu1 (Nat.le_of_ble_eq_true rfl)) (ub4 (a := 208) hu2 (Nat.le_of_ble_eq_true rfl)) ⟨xa, xb, ?_⟩)
    rw [ya, yb, i1, hp9, hq9]
    refine sr_word (d := 35) (Nat.le_of_ble_eq_true rfl : 74 ≤ 75) hr1 (fun e0 => (tbf b0 e0)) (fun _ => fun I2 q2 z2 => kc_v rfl rfl (rl_573 (d := 37) (Nat.le_refl 75) (ub3 (a := 208) hu1 (Nat.le_of_ble_eq_true rfl)) (ub4 (a := 208) hu2 (Nat.le_of_ble_eq_true rfl)) ?_))
    have g2 := q2.f
    have r2 := hr1.q q2
    refine if_y z2 (if_y rfl (if_y ((cmp1 _ _).mpr ?_) ?_))
    · exact (by rw [x2_at, if_pos ⟨rfl, rfl⟩])
    · rw [ix3]
      exact law_kill (hnx I2 _ (u.1 + bc 208, u.2 + bs 208) ⟨_, _, _, _, _, _, _, c1.out.rf g2, r2⟩ ((g2.1 0 (by decide)).trans i1) (Nat.add_le_add_left (Nat.le_of_ble_eq_true rfl) _) (Nat.add_le_add_left (Nat.le_of_ble_eq_true rfl) _))
theorem lw_band (hc : CSt I J W H C w hs t T) (hr : RfS I W H C w hs t T) (hi : i + 3 ≤ Ln) (hL : Ln ≤ 1536) (hu1 : u.1 + 2 ≤ 601024) (hu2 : u.2 + 12 ≤ 7293034) (hnx : ∀ I' J' u', LwS I' J' → I' 0 = I 0 → u'.1 ≤ u.1 + 1 → u'.2 ≤ u.2 + 6 → HD Ln (i + 3) u' I' J') :
    EX (cal 38) 219 QL 606 [some (.ref 0), some (.ref 1), some (.ref 59), some (.ref 74), some (.int (Int32.ofNat i)), none, none, none, none] [] u (hp true 75 (lay Ln) I J) := by
  obtain ⟨xa, ya⟩ := ix1 hi hL
  obtain ⟨xb, yb⟩ := ix2 hi hL
  have hv1 : u.1 + 1 ≤ 601024 := by omega
  have hv2 : u.2 + 6 ≤ 7293034 := by omega
  refine rl_606 (d := 37) (Nat.le_refl 75) hv1 hv2 ⟨xa, xb, ?_⟩
  rw [ya, yb]
  generalize hp9 : I 0 (i + 1) = p
  generalize hq9 : I 0 (i + 2) = q
  cases b0 : inN p (2 * (W + H)) with
  | false =>
    refine call_in (d := 37) (Nat.le_of_ble_eq_true rfl) rfl rfl (rw_209_0 (d := 37) (Nat.le_refl 75) (sp_band (d := 32) (Nat.le_of_ble_eq_true rfl : 59 ≤ 75) hc (fun _ => kc_x (x := 1) rfl ?_) (fun e0 e1 => (fbt b0 e0)) (fun e0 e1 => (fbt b0 e0))))
    refine kc_t (rl_623 (d := 37) (Nat.le_refl 75) (ub3 (a := 209) hu1 (Nat.le_of_ble_eq_true rfl)) (ub4 (a := 209) hu2 (Nat.le_of_ble_eq_true rfl)) ⟨xa, xb, ?_⟩)
    rw [ya, yb, hp9, hq9]
    refine sr_band (d := 32) (Nat.le_of_ble_eq_true rfl : 74 ≤ 75) hr (fun _ => fun I2 q2 z2 => kc_v rfl rfl (rl_641 (d := 37) (Nat.le_refl 75) (ub3 (a := 209) hu1 (Nat.le_of_ble_eq_true rfl)) (ub4 (a := 209) hu2 (Nat.le_of_ble_eq_true rfl)) ?_)) (fun e0 e1 => (fbt b0 e0)) (fun e0 e1 => (fbt b0 e0))
    refine if_y z2 (if_n (by decide) ?_)
    rw [ix3]
    exact law_kill (hnx I2 J (u.1 + bc 209, u.2 + bs 209) ⟨W, H, C, w, hs, t, T, hc.rf q2.f, hr.q q2⟩ (q2.f.1 0 (by decide)) (Nat.add_le_add_left (Nat.le_of_ble_eq_true rfl) _) (Nat.add_le_add_left (Nat.le_of_ble_eq_true rfl) _))
  | true =>
    cases b1 : wi q 0 6 with
    | false =>
      refine call_in (d := 37) (Nat.le_of_ble_eq_true rfl) rfl rfl (rw_209_0 (d := 37) (Nat.le_refl 75) (sp_band (d := 32) (Nat.le_of_ble_eq_true rfl : 59 ≤ 75) hc (fun e0 => (tbf b0 e0)) (fun _ _ => kc_x (x := 2) rfl ?_) (fun e0 e1 => (fbt b1 e1))))
      refine kc_t (rl_623 (d := 37) (Nat.le_refl 75) (ub3 (a := 209) hu1 (Nat.le_of_ble_eq_true rfl)) (ub4 (a := 209) hu2 (Nat.le_of_ble_eq_true rfl)) ⟨xa, xb, ?_⟩)
      rw [ya, yb, hp9, hq9]
      refine sr_band (d := 32) (Nat.le_of_ble_eq_true rfl : 74 ≤ 75) hr (fun e0 => (tbf b0 e0)) (fun _ _ => fun I2 q2 z2 => kc_v rfl rfl (rl_641 (d := 37) (Nat.le_refl 75) (ub3 (a := 209) hu1 (Nat.le_of_ble_eq_true rfl)) (ub4 (a := 209) hu2 (Nat.le_of_ble_eq_true rfl)) ?_)) (fun e0 e1 => (fbt b1 e1))
      refine if_y z2 (if_n (by decide) ?_)
      rw [ix3]
      exact law_kill (hnx I2 J (u.1 + bc 209, u.2 + bs 209) ⟨W, H, C, w, hs, t, T, hc.rf q2.f, hr.q q2⟩ (q2.f.1 0 (by decide)) (Nat.add_le_add_left (Nat.le_of_ble_eq_true rfl) _) (Nat.add_le_add_left (Nat.le_of_ble_eq_true rfl) _))
    | true =>
      refine call_in (d := 37) (Nat.le_of_ble_eq_true rfl) rfl rfl (rw_209_0 (d := 37) (Nat.le_refl 75) (sp_band (d := 32) (Nat.le_of_ble_eq_true rfl : 59 ≤ 75) hc (fun e0 => (tbf b0 e0)) (fun e0 e1 => (tbf b1 e1)) (fun _ _ => kc_t (rw_209_1 (Nat.le_refl 75) ⟨v01, ?_⟩))))
      have cf : ClF I J I J := ClF.rf I J
      have c1 := hc
      have hr1 := hr.cl cf
      have i1 : I 0 = I 0 := cf.1 0 (by omega)
      refine kc_t (rl_623 (d := 37) (Nat.le_refl 75) (ub3 (a := 209) hu1 (Nat.le_of_ble_eq_true rfl)) (ub4 (a := 209) hu2 (Nat.le_of_ble_eq_true rfl)) ⟨xa, xb, ?_⟩)
      rw [ya, yb, i1, hp9, hq9]
      refine sr_band (d := 32) (Nat.le_of_ble_eq_true rfl : 74 ≤ 75) hr1 (fun e0 => (tbf b0 e0)) (fun e0 e1 => (tbf b1 e1)) (fun _ _ => fun I2 q2 z2 => kc_v rfl rfl (rl_641 (d := 37) (Nat.le_refl 75) (ub3 (a := 209) hu1 (Nat.le_of_ble_eq_true rfl)) (ub4 (a := 209) hu2 (Nat.le_of_ble_eq_true rfl)) ?_))
      have g2 := q2.f
      have r2 := hr1.q q2
      refine if_y z2 (if_y rfl (if_y ((cmp1 _ _).mpr ?_) ?_))
      · exact (by rw [x2_at, if_pos ⟨rfl, rfl⟩])
      · rw [ix3]
        exact law_kill (hnx I2 _ (u.1 + bc 209, u.2 + bs 209) ⟨_, _, _, _, _, _, _, c1.out.rf g2, r2⟩ ((g2.1 0 (by decide)).trans i1) (Nat.add_le_add_left (Nat.le_of_ble_eq_true rfl) _) (Nat.add_le_add_left (Nat.le_of_ble_eq_true rfl) _))
theorem lw_cellOf (hc : CSt I J W H C w hs t T) (hr : RfS I W H C w hs t T) (hi : i + 3 ≤ Ln) (hL : Ln ≤ 1536) (hu1 : u.1 + 2 ≤ 601024) (hu2 : u.2 + 12 ≤ 7293034) (hnx : ∀ I' J' u', LwS I' J' → I' 0 = I 0 → u'.1 ≤ u.1 + 1 → u'.2 ≤ u.2 + 6 → HD Ln (i + 3) u' I' J') :
    EX (cal 38) 219 QL 674 [some (.ref 0), some (.ref 1), some (.ref 59), some (.ref 74), some (.int (Int32.ofNat i)), none, none, none, none] [] u (hp true 75 (lay Ln) I J) := by
  obtain ⟨xa, ya⟩ := ix1 hi hL
  obtain ⟨xb, yb⟩ := ix2 hi hL
  have hv1 : u.1 + 1 ≤ 601024 := by omega
  have hv2 : u.2 + 6 ≤ 7293034 := by omega
  refine rl_674 (d := 37) (Nat.le_refl 75) hv1 hv2 ⟨xa, xb, ?_⟩
  rw [ya, yb]
  generalize hp9 : I 0 (i + 1) = p
  generalize hq9 : I 0 (i + 2) = q
  cases b0 : inP W H C p q with
  | false =>
    refine call_in (d := 37) (Nat.le_of_ble_eq_true rfl) rfl rfl (rw_210_0 (d := 37) (Nat.le_refl 75) (sp_cellOf (d := 34) (Nat.le_of_ble_eq_true rfl : 59 ≤ 75) hc (fun _ => kc_x (x := 1) rfl ?_) (fun e0 => (fbt b0 e0))))
    refine kc_t (rl_691 (d := 37) (Nat.le_refl 75) (ub3 (a := 210) hu1 (Nat.le_of_ble_eq_true rfl)) (ub4 (a := 210) hu2 (Nat.le_of_ble_eq_true rfl)) ⟨xa, xb, ?_⟩)
    rw [ya, yb, hp9, hq9]
    refine sr_cellOf (d := 34) (Nat.le_of_ble_eq_true rfl : 74 ≤ 75) hr (fun _ => fun I2 q2 z2 => kc_v rfl rfl (rl_709 (d := 37) (Nat.le_refl 75) (ub3 (a := 210) hu1 (Nat.le_of_ble_eq_true rfl)) (ub4 (a := 210) hu2 (Nat.le_of_ble_eq_true rfl)) ?_)) (fun e0 => (fbt b0 e0))
    refine if_y z2 (if_n (by decide) ?_)
    rw [ix3]
    exact law_kill (hnx I2 J (u.1 + bc 210, u.2 + bs 210) ⟨W, H, C, w, hs, t, T, hc.rf q2.f, hr.q q2⟩ (q2.f.1 0 (by decide)) (Nat.add_le_add_left (Nat.le_of_ble_eq_true rfl) _) (Nat.add_le_add_left (Nat.le_of_ble_eq_true rfl) _))
  | true =>
    refine call_in (d := 37) (Nat.le_of_ble_eq_true rfl) rfl rfl (rw_210_0 (d := 37) (Nat.le_refl 75) (sp_cellOf (d := 34) (Nat.le_of_ble_eq_true rfl : 59 ≤ 75) hc (fun e0 => (tbf b0 e0)) (fun _ => kc_t (rw_210_1 (Nat.le_refl 75) ⟨v01, ?_⟩))))
    have cf : ClF I J I J := ClF.rf I J
    have c1 := hc
    have hr1 := hr.cl cf
    have i1 : I 0 = I 0 := cf.1 0 (by omega)
    refine kc_t (rl_691 (d := 37) (Nat.le_refl 75) (ub3 (a := 210) hu1 (Nat.le_of_ble_eq_true rfl)) (ub4 (a := 210) hu2 (Nat.le_of_ble_eq_true rfl)) ⟨xa, xb, ?_⟩)
    rw [ya, yb, i1, hp9, hq9]
    refine sr_cellOf (d := 34) (Nat.le_of_ble_eq_true rfl : 74 ≤ 75) hr1 (fun e0 => (tbf b0 e0)) (fun _ => fun I2 q2 z2 => kc_v rfl rfl (rl_709 (d := 37) (Nat.le_refl 75) (ub3 (a := 210) hu1 (Nat.le_of_ble_eq_true rfl)) (ub4 (a := 210) hu2 (Nat.le_of_ble_eq_true rfl)) ?_))
    have g2 := q2.f
    have r2 := hr1.q q2
    refine if_y z2 (if_y rfl (if_y ((cmp1 _ _).mpr ?_) ?_))
    · exact (by rw [x2_at, if_pos ⟨rfl, rfl⟩])
    · rw [ix3]
      exact law_kill (hnx I2 _ (u.1 + bc 210, u.2 + bs 210) ⟨_, _, _, _, _, _, _, c1.out.rf g2, r2⟩ ((g2.1 0 (by decide)).trans i1) (Nat.add_le_add_left (Nat.le_of_ble_eq_true rfl) _) (Nat.add_le_add_left (Nat.le_of_ble_eq_true rfl) _))
theorem lw_read (hc : CSt I J W H C w hs t T) (hr : RfS I W H C w hs t T) (hi : i + 3 ≤ Ln) (hL : Ln ≤ 1536) (hu1 : u.1 + 2 ≤ 601024) (hu2 : u.2 + 12 ≤ 7293034) (hnx : ∀ I' J' u', LwS I' J' → I' 0 = I 0 → u'.1 ≤ u.1 + 1 → u'.2 ≤ u.2 + 6 → HD Ln (i + 3) u' I' J') :
    EX (cal 38) 219 QL 742 [some (.ref 0), some (.ref 1), some (.ref 59), some (.ref 74), some (.int (Int32.ofNat i)), none, none, none, none] [] u (hp true 75 (lay Ln) I J) := by
  obtain ⟨xa, ya⟩ := ix1 hi hL
  obtain ⟨xb, yb⟩ := ix2 hi hL
  have hv1 : u.1 + 1 ≤ 601024 := by omega
  have hv2 : u.2 + 6 ≤ 7293034 := by omega
  refine rl_742 (d := 37) (Nat.le_refl 75) hv1 hv2 ⟨xa, xb, ?_⟩
  rw [ya, yb]
  generalize hp9 : I 0 (i + 1) = p
  generalize hq9 : I 0 (i + 2) = q
  cases b0 : (inN p (2 * (W + H)) && decide (0 ≤ q)) with
  | false =>
    refine call_in (d := 37) (Nat.le_of_ble_eq_true rfl) rfl rfl (rw_211_0 (d := 37) (Nat.le_refl 75) (sp_read (d := 31) (Nat.le_of_ble_eq_true rfl : 59 ≤ 75) hc (fun _ => kc_x (x := 1) rfl ?_) (fun e0 => (fbt b0 e0))))
    refine kc_t (rl_759 (d := 37) (Nat.le_refl 75) (ub3 (a := 211) hu1 (Nat.le_of_ble_eq_true rfl)) (ub4 (a := 211) hu2 (Nat.le_of_ble_eq_true rfl)) ⟨xa, xb, ?_⟩)
    rw [ya, yb, hp9, hq9]
    refine sr_read (d := 33) (Nat.le_of_ble_eq_true rfl : 74 ≤ 75) hr (fun _ => fun I2 q2 z2 => kc_v rfl rfl (rl_777 (d := 37) (Nat.le_refl 75) (ub3 (a := 211) hu1 (Nat.le_of_ble_eq_true rfl)) (ub4 (a := 211) hu2 (Nat.le_of_ble_eq_true rfl)) ?_)) (fun e0 => (fbt b0 e0))
    refine if_y z2 (if_n (by decide) ?_)
    rw [ix3]
    exact law_kill (hnx I2 J (u.1 + bc 211, u.2 + bs 211) ⟨W, H, C, w, hs, t, T, hc.rf q2.f, hr.q q2⟩ (q2.f.1 0 (by decide)) (Nat.add_le_add_left (Nat.le_of_ble_eq_true rfl) _) (Nat.add_le_add_left (Nat.le_of_ble_eq_true rfl) _))
  | true =>
    refine call_in (d := 37) (Nat.le_of_ble_eq_true rfl) rfl rfl (rw_211_0 (d := 37) (Nat.le_refl 75) (sp_read (d := 31) (Nat.le_of_ble_eq_true rfl : 59 ≤ 75) hc (fun e0 => (tbf b0 e0)) (fun _ => fun I1 q1 => kc_t (rw_211_1 (Nat.le_refl 75) ⟨v01, ?_⟩))))
    have cf : ClF I J I1 J := q1.cl
    have c1 := hc.q q1
    have hr1 := hr.cl cf
    have i1 : I1 0 = I 0 := cf.1 0 (by omega)
    refine kc_t (rl_759 (d := 37) (Nat.le_refl 75) (ub3 (a := 211) hu1 (Nat.le_of_ble_eq_true rfl)) (ub4 (a := 211) hu2 (Nat.le_of_ble_eq_true rfl)) ⟨xa, xb, ?_⟩)
    rw [ya, yb, i1, hp9, hq9]
    refine sr_read (d := 33) (Nat.le_of_ble_eq_true rfl : 74 ≤ 75) hr1 (fun e0 => (tbf b0 e0)) (fun _ => fun I2 q2 z2 => kc_v rfl rfl (rl_777 (d := 37) (Nat.le_refl 75) (ub3 (a := 211) hu1 (Nat.le_of_ble_eq_true rfl)) (ub4 (a := 211) hu2 (Nat.le_of_ble_eq_true rfl)) ?_))
    have g2 := q2.f
    have r2 := hr1.q q2
    refine if_y z2 (if_y rfl (if_y ((cmp1 _ _).mpr ?_) ?_))
    · exact (by rw [x2_at, if_pos ⟨rfl, rfl⟩])
    · rw [ix3]
      exact law_kill (hnx I2 _ (u.1 + bc 211, u.2 + bs 211) ⟨_, _, _, _, _, _, _, c1.out.rf g2, r2⟩ ((g2.1 0 (by decide)).trans i1) (Nat.add_le_add_left (Nat.le_of_ble_eq_true rfl) _) (Nat.add_le_add_left (Nat.le_of_ble_eq_true rfl) _))
theorem lw_wordsOf (hc : CSt I J W H C w hs t T) (hr : RfS I W H C w hs t T) (hi : i + 3 ≤ Ln) (hL : Ln ≤ 1536) (hu1 : u.1 + 2 ≤ 601024) (hu2 : u.2 + 12 ≤ 7293034) (hnx : ∀ I' J' u', LwS I' J' → I' 0 = I 0 → u'.1 ≤ u.1 + 1 → u'.2 ≤ u.2 + 6 → HD Ln (i + 3) u' I' J') :
    EX (cal 38) 219 QL 810 [some (.ref 0), some (.ref 1), some (.ref 59), some (.ref 74), some (.int (Int32.ofNat i)), none, none, none, none] [] u (hp true 75 (lay Ln) I J) := by
  obtain ⟨xa, ya⟩ := ix1 hi hL
  obtain ⟨xb, yb⟩ := ix2 hi hL
  have hv1 : u.1 + 1 ≤ 601024 := by omega
  have hv2 : u.2 + 6 ≤ 7293034 := by omega
  refine rl_810 (d := 37) (Nat.le_refl 75) hv1 hv2 ⟨xa, ?_⟩
  rw [ya]
  generalize hp9 : I 0 (i + 1) = p
  cases b0 : inN p (2 * (W + H)) with
  | false =>
    refine call_in (d := 37) (Nat.le_of_ble_eq_true rfl) rfl rfl (rw_212_0 (d := 37) (Nat.le_refl 75) (sp_wordsOf (d := 30) (Nat.le_of_ble_eq_true rfl : 59 ≤ 75) hc (fun _ => kc_x (x := 1) rfl ?_) (fun e0 => (fbt b0 e0))))
    refine kc_t (rl_821 (d := 37) (Nat.le_refl 75) (ub3 (a := 212) hu1 (Nat.le_of_ble_eq_true rfl)) (ub4 (a := 212) hu2 (Nat.le_of_ble_eq_true rfl)) ⟨xa, ?_⟩)
    rw [ya, hp9]
    refine sr_wordsOf (d := 32) (Nat.le_of_ble_eq_true rfl : 74 ≤ 75) hr (fun _ => fun I2 q2 z2 => kc_v rfl rfl (rl_833 (d := 37) (Nat.le_refl 75) (ub3 (a := 212) hu1 (Nat.le_of_ble_eq_true rfl)) (ub4 (a := 212) hu2 (Nat.le_of_ble_eq_true rfl)) ?_)) (fun e0 => (fbt b0 e0))
    refine if_y z2 (if_n (by decide) ?_)
    rw [ix3]
    exact law_kill (hnx I2 J (u.1 + bc 212, u.2 + bs 212) ⟨W, H, C, w, hs, t, T, hc.rf q2.f, hr.q q2⟩ (q2.f.1 0 (by decide)) (Nat.add_le_add_left (Nat.le_of_ble_eq_true rfl) _) (Nat.add_le_add_left (Nat.le_of_ble_eq_true rfl) _))
  | true =>
    refine call_in (d := 37) (Nat.le_of_ble_eq_true rfl) rfl rfl (rw_212_0 (d := 37) (Nat.le_refl 75) (sp_wordsOf (d := 30) (Nat.le_of_ble_eq_true rfl : 59 ≤ 75) hc (fun e0 => (tbf b0 e0)) (fun _ => fun I1 q1 => kc_t (rw_212_1 (Nat.le_refl 75) ⟨v01, ?_⟩))))
    have cf : ClF I J I1 J := q1.cl
    have c1 := hc.q q1
    have hr1 := hr.cl cf
    have i1 : I1 0 = I 0 := cf.1 0 (by omega)
    refine kc_t (rl_821 (d := 37) (Nat.le_refl 75) (ub3 (a := 212) hu1 (Nat.le_of_ble_eq_true rfl)) (ub4 (a := 212) hu2 (Nat.le_of_ble_eq_true rfl)) ⟨xa, ?_⟩)
    rw [ya, i1, hp9]
    refine sr_wordsOf (d := 32) (Nat.le_of_ble_eq_true rfl : 74 ≤ 75) hr1 (fun e0 => (tbf b0 e0)) (fun _ => fun I2 q2 z2 => kc_v rfl rfl (rl_833 (d := 37) (Nat.le_refl 75) (ub3 (a := 212) hu1 (Nat.le_of_ble_eq_true rfl)) (ub4 (a := 212) hu2 (Nat.le_of_ble_eq_true rfl)) ?_))
    have g2 := q2.f
    have r2 := hr1.q q2
    refine if_y z2 (if_y rfl (if_y ((cmp1 _ _).mpr ?_) ?_))
    · exact (by rw [x2_at, if_pos ⟨rfl, rfl⟩])
    · rw [ix3]
      exact law_kill (hnx I2 _ (u.1 + bc 212, u.2 + bs 212) ⟨_, _, _, _, _, _, _, c1.out.rf g2, r2⟩ ((g2.1 0 (by decide)).trans i1) (Nat.add_le_add_left (Nat.le_of_ble_eq_true rfl) _) (Nat.add_le_add_left (Nat.le_of_ble_eq_true rfl) _))
theorem lw_alike (hc : CSt I J W H C w hs t T) (hr : RfS I W H C w hs t T) (hi : i + 3 ≤ Ln) (hL : Ln ≤ 1536) (hu1 : u.1 + 2 ≤ 601024) (hu2 : u.2 + 12 ≤ 7293034) (hnx : ∀ I' J' u', LwS I' J' → I' 0 = I 0 → u'.1 ≤ u.1 + 1 → u'.2 ≤ u.2 + 6 → HD Ln (i + 3) u' I' J') :
    EX (cal 38) 219 QL 866 [some (.ref 0), some (.ref 1), some (.ref 59), some (.ref 74), some (.int (Int32.ofNat i)), none, none, none, none] [] u (hp true 75 (lay Ln) I J) := by
  obtain ⟨xa, ya⟩ := ix1 hi hL
  obtain ⟨xb, yb⟩ := ix2 hi hL
  have hv1 : u.1 + 1 ≤ 601024 := by omega
  have hv2 : u.2 + 6 ≤ 7293034 := by omega
  refine rl_866 (d := 37) (Nat.le_refl 75) hv1 hv2 ⟨xa, ?_⟩
  rw [ya]
  generalize hp9 : I 0 (i + 1) = p
  cases b0 : inN p (2 * (W + H)) with
  | false =>
    refine call_in (d := 37) (Nat.le_of_ble_eq_true rfl) rfl rfl (rw_213_0 (d := 37) (Nat.le_refl 75) (sp_alike (d := 31) (Nat.le_of_ble_eq_true rfl : 59 ≤ 75) hc (fun _ => kc_x (x := 1) rfl ?_) (fun e0 => (fbt b0 e0))))
    refine kc_t (rl_877 (d := 37) (Nat.le_refl 75) (ub3 (a := 213) hu1 (Nat.le_of_ble_eq_true rfl)) (ub4 (a := 213) hu2 (Nat.le_of_ble_eq_true rfl)) ⟨xa, ?_⟩)
    rw [ya, hp9]
    refine sr_alike (d := 32) (Nat.le_of_ble_eq_true rfl : 74 ≤ 75) hr (fun _ => fun I2 q2 z2 => kc_v rfl rfl (rl_889 (d := 37) (Nat.le_refl 75) (ub3 (a := 213) hu1 (Nat.le_of_ble_eq_true rfl)) (ub4 (a := 213) hu2 (Nat.le_of_ble_eq_true rfl)) ?_)) (fun e0 => (fbt b0 e0))
    refine if_y z2 (if_n (by decide) ?_)
    rw [ix3]
    exact law_kill (hnx I2 J (u.1 + bc 213, u.2 + bs 213) ⟨W, H, C, w, hs, t, T, hc.rf q2.f, hr.q q2⟩ (q2.f.1 0 (by decide)) (Nat.add_le_add_left (Nat.le_of_ble_eq_true rfl) _) (Nat.add_le_add_left (Nat.le_of_ble_eq_true rfl) _))
  | true =>
    refine call_in (d := 37) (Nat.le_of_ble_eq_true rfl) rfl rfl (rw_213_0 (d := 37) (Nat.le_refl 75) (sp_alike (d := 31) (Nat.le_of_ble_eq_true rfl : 59 ≤ 75) hc (fun e0 => (tbf b0 e0)) (fun _ => fun I1 q1 => kc_t (rw_213_1 (Nat.le_refl 75) ?_))))
    have cf : ClF I J I1 J := q1.cl
    have c1 := hc.q q1
    have hr1 := hr.cl cf
    have i1 : I1 0 = I 0 := cf.1 0 (by omega)
    have go : ∀ v : Int64, v = (if alikeB W H C p.toNatClampNeg then 1 else 0) → KC 38 219 QL 877 [some (.ref 0), some (.ref 1), some (.ref 59), some (.ref 74), some (.int (Int32.ofNat i)), none, none, none, none] [] u 213 (hp true 75 (lay Ln) I J) (.inl (some (.int 0))) (hp true 75 (lay Ln) I1 (x2 J 74 0 v)) := by
      intro v hv
      refine kc_t (rl_877 (d := 37) (Nat.le_refl 75) (ub3 (a := 213) hu1 (Nat.le_of_ble_eq_true rfl)) (ub4 (a := 213) hu2 (Nat.le_of_ble_eq_true rfl)) ⟨xa, ?_⟩)
      rw [ya, i1, hp9]
      refine sr_alike (d := 32) (Nat.le_of_ble_eq_true rfl : 74 ≤ 75) hr1 (fun e0 => (tbf b0 e0)) (fun _ => fun I2 q2 z2 => kc_v rfl rfl (rl_889 (d := 37) (Nat.le_refl 75) (ub3 (a := 213) hu1 (Nat.le_of_ble_eq_true rfl)) (ub4 (a := 213) hu2 (Nat.le_of_ble_eq_true rfl)) ?_))
      have g2 := q2.f
      have r2 := hr1.q q2
      have e7 : (x2 J 74 0 v) 74 0 = v := by rw [x2_at, if_pos ⟨rfl, rfl⟩]
      have fin : ∀ a5 a6 a7 a8, EX (cal 38) 219 QL 23 [some (.ref 0), some (.ref 1), some (.ref 59), some (.ref 74), some (.int (Int32.ofNat i + 3)), a5, a6, a7, a8] [] (u.1 + bc 213, u.2 + bs 213) (hp true 75 (lay Ln) I2 (x2 J 74 0 v)) := by
        intro a5 a6 a7 a8
        rw [ix3]
        exact law_kill (hnx I2 _ (u.1 + bc 213, u.2 + bs 213) ⟨_, _, _, _, _, _, _, c1.out.rf g2, r2⟩ ((g2.1 0 (by decide)).trans i1) (Nat.add_le_add_left (Nat.le_of_ble_eq_true rfl) _) (Nat.add_le_add_left (Nat.le_of_ble_eq_true rfl) _))
      refine if_y z2 (if_y rfl ?_)
      refine b2c (fun z => if_y ?_ (fin _ _ _ _)) (fun z => if_y ?_ (fin _ _ _ _))
      · rw [e7, hv, z]; decide
      · rw [e7, hv, z]; decide
    refine b2c (fun z => ⟨v01, go 0 (by rw [z]; rfl)⟩) (fun z => ⟨v01, go 1 (by rw [z]; rfl)⟩)
theorem lw_choices (hc : CSt I J W H C w hs t T) (hr : RfS I W H C w hs t T) (hi : i + 3 ≤ Ln) (hL : Ln ≤ 1536) (hu1 : u.1 + 2 ≤ 601024) (hu2 : u.2 + 12 ≤ 7293034) (hnx : ∀ I' J' u', LwS I' J' → I' 0 = I 0 → u'.1 ≤ u.1 + 1 → u'.2 ≤ u.2 + 6 → HD Ln (i + 3) u' I' J') :
    EX (cal 38) 219 QL 929 [some (.ref 0), some (.ref 1), some (.ref 59), some (.ref 74), some (.int (Int32.ofNat i)), none, none, none, none] [] u (hp true 75 (lay Ln) I J) := by
  obtain ⟨xa, ya⟩ := ix1 hi hL
  obtain ⟨xb, yb⟩ := ix2 hi hL
  have hv1 : u.1 + 1 ≤ 601024 := by omega
  have hv2 : u.2 + 6 ≤ 7293034 := by omega
  refine rl_929 (d := 37) (Nat.le_refl 75) hv1 hv2 ⟨xa, ?_⟩
  rw [ya]
  generalize hp9 : I 0 (i + 1) = p
  cases b0 : wi p 1 50 with
  | false =>
    refine call_in (d := 37) (Nat.le_of_ble_eq_true rfl) rfl rfl (rw_214_0 (d := 37) (Nat.le_refl 75) (sp_choices (d := 3) (Nat.le_of_ble_eq_true rfl : 59 ≤ 75) hc (fun _ => kc_x (x := 1) rfl ?_) (fun e0 => (fbt b0 e0))))
    refine kc_t (rl_940 (d := 37) (Nat.le_refl 75) (ub3 (a := 214) hu1 (Nat.le_of_ble_eq_true rfl)) (ub4 (a := 214) hu2 (Nat.le_of_ble_eq_true rfl)) ⟨xa, ?_⟩)
    rw [ya, hp9]
    refine sr_choices (d := 31) (Nat.le_of_ble_eq_true rfl : 74 ≤ 75) hr (fun _ => fun I2 q2 z2 => kc_v rfl rfl (rl_952 (d := 37) (Nat.le_refl 75) (ub3 (a := 214) hu1 (Nat.le_of_ble_eq_true rfl)) (ub4 (a := 214) hu2 (Nat.le_of_ble_eq_true rfl)) ?_)) (fun e0 => (fbt b0 e0))
    refine if_y z2 (if_n (by decide) ?_)
    rw [ix3]
    exact law_kill (hnx I2 J (u.1 + bc 214, u.2 + bs 214) ⟨W, H, C, w, hs, t, T, hc.rf q2.f, hr.q q2⟩ (q2.f.1 0 (by decide)) (Nat.add_le_add_left (Nat.le_of_ble_eq_true rfl) _) (Nat.add_le_add_left (Nat.le_of_ble_eq_true rfl) _))
  | true =>
    refine call_in (d := 37) (Nat.le_of_ble_eq_true rfl) rfl rfl (rw_214_0 (d := 37) (Nat.le_refl 75) (sp_choices (d := 3) (Nat.le_of_ble_eq_true rfl : 59 ≤ 75) hc (fun e0 => (tbf b0 e0)) (fun _ => fun I1 J1 q1 => kc_t (rw_214_1 (Nat.le_refl 75) ⟨v01, ?_⟩))))
    have cf : ClF I J I1 J1 := q1.cl
    have c1 := hc.q q1
    have hr1 := hr.cl cf
    have i1 : I1 0 = I 0 := cf.1 0 (by omega)
    refine kc_t (rl_940 (d := 37) (Nat.le_refl 75) (ub3 (a := 214) hu1 (Nat.le_of_ble_eq_true rfl)) (ub4 (a := 214) hu2 (Nat.le_of_ble_eq_true rfl)) ⟨xa, ?_⟩)
    rw [ya, i1, hp9]
    refine sr_choices (d := 31) (Nat.le_of_ble_eq_true rfl : 74 ≤ 75) hr1 (fun e0 => (tbf b0 e0)) (fun _ => fun I2 J2 q2 z2 => kc_v rfl rfl (rl_952 (d := 37) (Nat.le_refl 75) (ub3 (a := 214) hu1 (Nat.le_of_ble_eq_true rfl)) (ub4 (a := 214) hu2 (Nat.le_of_ble_eq_true rfl)) ?_))
    have g2 := q2.f
    have r2 := hr1.q q2
    refine if_y z2 (if_y rfl (if_y ((cmp1 _ _).mpr ?_) ?_))
    · rw [g2.2 74 (by omega)]; exact (by rw [x2_at, if_pos ⟨rfl, rfl⟩])
    · rw [ix3]
      exact law_kill (hnx I2 J2 (u.1 + bc 214, u.2 + bs 214) ⟨_, _, _, _, _, _, _, c1.out.rf g2, r2⟩ ((g2.1 0 (by decide)).trans i1) (Nat.add_le_add_left (Nat.le_of_ble_eq_true rfl) _) (Nat.add_le_add_left (Nat.le_of_ble_eq_true rfl) _))
theorem lw_nodes (hc : CSt I J W H C w hs t T) (hr : RfS I W H C w hs t T) (hi : i + 3 ≤ Ln) (hL : Ln ≤ 1536) (hu1 : u.1 + 2 ≤ 601024) (hu2 : u.2 + 12 ≤ 7293034) (hnx : ∀ I' J' u', LwS I' J' → I' 0 = I 0 → u'.1 ≤ u.1 + 1 → u'.2 ≤ u.2 + 6 → HD Ln (i + 3) u' I' J') :
    EX (cal 38) 219 QL 985 [some (.ref 0), some (.ref 1), some (.ref 59), some (.ref 74), some (.int (Int32.ofNat i)), none, none, none, none] [] u (hp true 75 (lay Ln) I J) := by
  obtain ⟨xa, ya⟩ := ix1 hi hL
  obtain ⟨xb, yb⟩ := ix2 hi hL
  have hv1 : u.1 + 1 ≤ 601024 := by omega
  have hv2 : u.2 + 6 ≤ 7293034 := by omega
  refine rl_985 (d := 37) (Nat.le_refl 75) hv1 hv2 ⟨xa, ?_⟩
  rw [ya]
  generalize hp9 : I 0 (i + 1) = p
  cases b0 : wi p 1 50 with
  | false =>
    refine call_in (d := 37) (Nat.le_of_ble_eq_true rfl) rfl rfl (rw_215_0 (d := 37) (Nat.le_refl 75) (sp_nodes (d := 3) (Nat.le_of_ble_eq_true rfl : 59 ≤ 75) hc (fun _ => kc_x (x := 1) rfl ?_) (fun e0 => (fbt b0 e0))))
    refine kc_t (rl_996 (d := 37) (Nat.le_refl 75) (ub3 (a := 215) hu1 (Nat.le_of_ble_eq_true rfl)) (ub4 (a := 215) hu2 (Nat.le_of_ble_eq_true rfl)) ⟨xa, ?_⟩)
    rw [ya, hp9]
    refine sr_nodes (d := 31) (Nat.le_of_ble_eq_true rfl : 74 ≤ 75) hr (fun _ => fun I2 q2 z2 => kc_v rfl rfl (rl_1008 (d := 37) (Nat.le_refl 75) (ub3 (a := 215) hu1 (Nat.le_of_ble_eq_true rfl)) (ub4 (a := 215) hu2 (Nat.le_of_ble_eq_true rfl)) ?_)) (fun e0 => (fbt b0 e0))
    refine if_y z2 (if_n (by decide) ?_)
    rw [ix3]
    exact law_kill (hnx I2 J (u.1 + bc 215, u.2 + bs 215) ⟨W, H, C, w, hs, t, T, hc.rf q2.f, hr.q q2⟩ (q2.f.1 0 (by decide)) (Nat.add_le_add_left (Nat.le_of_ble_eq_true rfl) _) (Nat.add_le_add_left (Nat.le_of_ble_eq_true rfl) _))
  | true =>
    refine call_in (d := 37) (Nat.le_of_ble_eq_true rfl) rfl rfl (rw_215_0 (d := 37) (Nat.le_refl 75) (sp_nodes (d := 3) (Nat.le_of_ble_eq_true rfl : 59 ≤ 75) hc (fun e0 => (tbf b0 e0)) (fun _ => fun I1 J1 q1 => kc_t (rw_215_1 (Nat.le_refl 75) ⟨v01, ?_⟩))))
    have cf : ClF I J I1 J1 := q1.cl
    have c1 := hc.q q1
    have hr1 := hr.cl cf
    have i1 : I1 0 = I 0 := cf.1 0 (by omega)
    refine kc_t (rl_996 (d := 37) (Nat.le_refl 75) (ub3 (a := 215) hu1 (Nat.le_of_ble_eq_true rfl)) (ub4 (a := 215) hu2 (Nat.le_of_ble_eq_true rfl)) ⟨xa, ?_⟩)
    rw [ya, i1, hp9]
    refine sr_nodes (d := 31) (Nat.le_of_ble_eq_true rfl : 74 ≤ 75) hr1 (fun e0 => (tbf b0 e0)) (fun _ => fun I2 J2 q2 z2 => kc_v rfl rfl (rl_1008 (d := 37) (Nat.le_refl 75) (ub3 (a := 215) hu1 (Nat.le_of_ble_eq_true rfl)) (ub4 (a := 215) hu2 (Nat.le_of_ble_eq_true rfl)) ?_))
    have g2 := q2.f
    have r2 := hr1.q q2
    refine if_y z2 (if_y rfl (if_y ((cmp1 _ _).mpr ?_) ?_))
    · rw [g2.2 74 (by omega)]; exact (by rw [x2_at, if_pos ⟨rfl, rfl⟩])
    · rw [ix3]
      exact law_kill (hnx I2 J2 (u.1 + bc 215, u.2 + bs 215) ⟨_, _, _, _, _, _, _, c1.out.rf g2, r2⟩ ((g2.1 0 (by decide)).trans i1) (Nat.add_le_add_left (Nat.le_of_ble_eq_true rfl) _) (Nat.add_le_add_left (Nat.le_of_ble_eq_true rfl) _))
theorem lw_chosen (hc : CSt I J W H C w hs t T) (hr : RfS I W H C w hs t T) (hi : i + 3 ≤ Ln) (hL : Ln ≤ 1536) (hu1 : u.1 + 2 ≤ 601024) (hu2 : u.2 + 12 ≤ 7293034) (hnx : ∀ I' J' u', LwS I' J' → I' 0 = I 0 → u'.1 ≤ u.1 + 1 → u'.2 ≤ u.2 + 6 → HD Ln (i + 3) u' I' J') :
    EX (cal 38) 219 QL 1041 [some (.ref 0), some (.ref 1), some (.ref 59), some (.ref 74), some (.int (Int32.ofNat i)), none, none, none, none] [] u (hp true 75 (lay Ln) I J) := by
  obtain ⟨xa, ya⟩ := ix1 hi hL
  obtain ⟨xb, yb⟩ := ix2 hi hL
  have hv1 : u.1 + 1 ≤ 601024 := by omega
  have hv2 : u.2 + 6 ≤ 7293034 := by omega
  refine rl_1041 (d := 37) (Nat.le_refl 75) hv1 hv2 ⟨xa, ?_⟩
  rw [ya]
  generalize hp9 : I 0 (i + 1) = p
  cases b0 : decide (0 ≤ p) with
  | false =>
    refine call_in (d := 37) (Nat.le_of_ble_eq_true rfl) rfl rfl (rw_216_0 (d := 37) (Nat.le_refl 75) (sp_chosen (d := 3) (Nat.le_of_ble_eq_true rfl : 59 ≤ 75) hc (fun _ => kc_x (x := 1) rfl ?_) (fun e0 => (fbt b0 e0))))
    refine kc_t (rl_1052 (d := 37) (Nat.le_refl 75) (ub3 (a := 216) hu1 (Nat.le_of_ble_eq_true rfl)) (ub4 (a := 216) hu2 (Nat.le_of_ble_eq_true rfl)) ⟨xa, ?_⟩)
    rw [ya, hp9]
    refine sr_chosen (d := 31) (Nat.le_of_ble_eq_true rfl : 74 ≤ 75) hr (fun _ => fun I2 q2 z2 => kc_v rfl rfl (rl_1064 (d := 37) (Nat.le_refl 75) (ub3 (a := 216) hu1 (Nat.le_of_ble_eq_true rfl)) (ub4 (a := 216) hu2 (Nat.le_of_ble_eq_true rfl)) ?_)) (fun e0 => (fbt b0 e0))
    refine if_y z2 (if_n (by decide) ?_)
    rw [ix3]
    exact law_kill (hnx I2 J (u.1 + bc 216, u.2 + bs 216) ⟨W, H, C, w, hs, t, T, hc.rf q2.f, hr.q q2⟩ (q2.f.1 0 (by decide)) (Nat.add_le_add_left (Nat.le_of_ble_eq_true rfl) _) (Nat.add_le_add_left (Nat.le_of_ble_eq_true rfl) _))
  | true =>
    refine call_in (d := 37) (Nat.le_of_ble_eq_true rfl) rfl rfl (rw_216_0 (d := 37) (Nat.le_refl 75) (sp_chosen (d := 3) (Nat.le_of_ble_eq_true rfl : 59 ≤ 75) hc (fun e0 => (tbf b0 e0)) (fun _ => fun I1 J1 q1 => kc_t (rw_216_1 (Nat.le_refl 75) ⟨v01, ?_⟩))))
    have cf : ClF I J I1 J1 := q1.cl
    have c1 := hc.q q1
    have hr1 := hr.cl cf
    have i1 : I1 0 = I 0 := cf.1 0 (by omega)
    refine kc_t (rl_1052 (d := 37) (Nat.le_refl 75) (ub3 (a := 216) hu1 (Nat.le_of_ble_eq_true rfl)) (ub4 (a := 216) hu2 (Nat.le_of_ble_eq_true rfl)) ⟨xa, ?_⟩)
    rw [ya, i1, hp9]
    refine sr_chosen (d := 31) (Nat.le_of_ble_eq_true rfl : 74 ≤ 75) hr1 (fun e0 => (tbf b0 e0)) (fun _ => fun I2 J2 q2 z2 => kc_v rfl rfl (rl_1064 (d := 37) (Nat.le_refl 75) (ub3 (a := 216) hu1 (Nat.le_of_ble_eq_true rfl)) (ub4 (a := 216) hu2 (Nat.le_of_ble_eq_true rfl)) ?_))
    have g2 := q2.f
    have r2 := hr1.q q2
    refine if_y z2 (if_y rfl (if_y ((cmp1 _ _).mpr ?_) ?_))
    · rw [g2.2 74 (by omega)]; exact (by rw [x2_at, if_pos ⟨rfl, rfl⟩])
    · rw [ix3]
      exact law_kill (hnx I2 J2 (u.1 + bc 216, u.2 + bs 216) ⟨_, _, _, _, _, _, _, c1.out.rf g2, r2⟩ ((g2.1 0 (by decide)).trans i1) (Nat.add_le_add_left (Nat.le_of_ble_eq_true rfl) _) (Nat.add_le_add_left (Nat.le_of_ble_eq_true rfl) _))
theorem lw_fewest (hc : CSt I J W H C w hs t T) (hr : RfS I W H C w hs t T) (hi : i + 3 ≤ Ln) (hL : Ln ≤ 1536) (hu1 : u.1 + 2 ≤ 601024) (hu2 : u.2 + 12 ≤ 7293034) (hnx : ∀ I' J' u', LwS I' J' → I' 0 = I 0 → u'.1 ≤ u.1 + 1 → u'.2 ≤ u.2 + 6 → HD Ln (i + 3) u' I' J') :
    EX (cal 38) 219 QL 1097 [some (.ref 0), some (.ref 1), some (.ref 59), some (.ref 74), some (.int (Int32.ofNat i)), none, none, none, none] [] u (hp true 75 (lay Ln) I J) := by
  obtain ⟨xa, ya⟩ := ix1 hi hL
  obtain ⟨xb, yb⟩ := ix2 hi hL
  have hv1 : u.1 + 1 ≤ 601024 := by omega
  have hv2 : u.2 + 6 ≤ 7293034 := by omega
  refine rl_1097 (d := 37) (Nat.le_refl 75) hv1 hv2 (sp_fewest (d := 4) (Nat.le_of_ble_eq_true rfl : 59 ≤ 75) hc (fun I1 J1 q1 => kc_v rfl rfl (rl_1101 (d := 37) (Nat.le_refl 75) hv1 hv2 ?_)))
  have cf : ClF I J I1 J1 := q1.cl
  have c1 := hc.q q1
  have hr1 := hr.cl cf
  refine sr_fewest (d := 31) (Nat.le_of_ble_eq_true rfl : 74 ≤ 75) hr1 (fun I2 J2 q2 => kc_v rfl rfl (rl_1105 (d := 37) (Nat.le_refl 75) hv1 hv2 ?_))
  have g2 := q2.f
  have r2 := hr1.q q2
  refine if_y rfl ?_
  rw [ix3]
  exact law_kill (hnx I2 J2 u ⟨_, _, _, _, _, _, _, c1.rf g2, r2⟩ ((g2.1 0 (by decide)).trans (cf.1 0 (by omega))) (by omega) (by omega))
theorem lw_repair (hc : CSt I J W H C w hs t T) (hr : RfS I W H C w hs t T) (hi : i + 3 ≤ Ln) (hL : Ln ≤ 1536) (hu1 : u.1 + 2 ≤ 601024) (hu2 : u.2 + 12 ≤ 7293034) (hnx : ∀ I' J' u', LwS I' J' → I' 0 = I 0 → u'.1 ≤ u.1 + 1 → u'.2 ≤ u.2 + 6 → HD Ln (i + 3) u' I' J') :
    EX (cal 38) 219 QL 1110 [some (.ref 0), some (.ref 1), some (.ref 59), some (.ref 74), some (.int (Int32.ofNat i)), none, none, none, none] [] u (hp true 75 (lay Ln) I J) := by
  obtain ⟨xa, ya⟩ := ix1 hi hL
  obtain ⟨xb, yb⟩ := ix2 hi hL
  have hv1 : u.1 + 1 ≤ 601024 := by omega
  have hv2 : u.2 + 6 ≤ 7293034 := by omega
  refine rl_1110 (d := 37) (Nat.le_refl 75) hv1 hv2 (sp_repair (d := 2) (Nat.le_of_ble_eq_true rfl : 59 ≤ 75) hc (fun I1 J1 cf c1 => kc_v rfl rfl (rl_1114 (d := 37) (Nat.le_refl 75) hv1 hv2 ?_)))
  have hr1 := hr.cl cf
  refine sr_repair (d := 31) (Nat.le_of_ble_eq_true rfl : 74 ≤ 75) hr1 (fun I2 J2 q2 => kc_v rfl rfl (rl_1118 (d := 37) (Nat.le_refl 75) hv1 hv2 ?_))
  have g2 := q2.f
  have r2 := hr1.q q2
  refine if_y rfl ?_
  rw [ix3]
  exact law_kill (hnx I2 J2 u ⟨_, _, _, _, _, _, _, c1.rf g2, r2⟩ ((g2.1 0 (by decide)).trans (cf.1 0 (by omega))) (by omega) (by omega))
theorem lw_told (hc : CSt I J W H C w hs t T) (hr : RfS I W H C w hs t T) (hi : i + 3 ≤ Ln) (hL : Ln ≤ 1536) (hu1 : u.1 + 2 ≤ 601024) (hu2 : u.2 + 12 ≤ 7293034) (hnx : ∀ I' J' u', LwS I' J' → I' 0 = I 0 → u'.1 ≤ u.1 + 1 → u'.2 ≤ u.2 + 6 → HD Ln (i + 3) u' I' J') :
    EX (cal 38) 219 QL 1123 [some (.ref 0), some (.ref 1), some (.ref 59), some (.ref 74), some (.int (Int32.ofNat i)), none, none, none, none] [] u (hp true 75 (lay Ln) I J) := by
  obtain ⟨xa, ya⟩ := ix1 hi hL
  obtain ⟨xb, yb⟩ := ix2 hi hL
  have hv1 : u.1 + 1 ≤ 601024 := by omega
  have hv2 : u.2 + 6 ≤ 7293034 := by omega
  refine rl_1123 (d := 37) (Nat.le_refl 75) hv1 hv2 (sp_told (d := 31) (Nat.le_of_ble_eq_true rfl : 59 ≤ 75) hc (fun I1 q1 => kc_v rfl rfl (rl_1127 (d := 37) (Nat.le_refl 75) hv1 hv2 ?_)))
  have cf : ClF I J I1 J := q1.cl
  have c1 := hc.q q1
  have hr1 := hr.cl cf
  refine sr_told (d := 31) (Nat.le_of_ble_eq_true rfl : 74 ≤ 75) hr1 (fun I2 q2 => kc_v rfl rfl (rl_1133 (d := 37) (Nat.le_refl 75) hv1 hv2 ?_))
  have g2 := q2.f
  have r2 := hr1.q q2
  have fin : ∀ a5 a6 a7 a8, EX (cal 38) 219 QL 23 [some (.ref 0), some (.ref 1), some (.ref 59), some (.ref 74), some (.int (Int32.ofNat i + 3)), a5, a6, a7, a8] [] u (hp true 75 (lay Ln) I2 J) := by
    intro a5 a6 a7 a8
    rw [ix3]
    exact law_kill (hnx I2 J u ⟨W, H, C, w, hs, t, T, c1.rf g2, r2⟩ ((g2.1 0 (by decide)).trans (cf.1 0 (by omega))) (by omega) (by omega))
  exact if_c (fun _ => fin _ _ _ _) (fun e => if_n e (if_n e (fin _ _ _ _)))
theorem lw_append (hc : CSt I J W H C w hs t T) (hr : RfS I W H C w hs t T) (hi : i + 3 ≤ Ln) (hL : Ln ≤ 1536) (hu1 : u.1 + 2 ≤ 601024) (hu2 : u.2 + 12 ≤ 7293034) (hnx : ∀ I' J' u', LwS I' J' → I' 0 = I 0 → u'.1 ≤ u.1 + 1 → u'.2 ≤ u.2 + 6 → HD Ln (i + 3) u' I' J') :
    EX (cal 38) 219 QL 1164 [some (.ref 0), some (.ref 1), some (.ref 59), some (.ref 74), some (.int (Int32.ofNat i)), none, none, none, none] [] u (hp true 75 (lay Ln) I J) := by
  obtain ⟨xa, ya⟩ := ix1 hi hL
  obtain ⟨xb, yb⟩ := ix2 hi hL
  have hv1 : u.1 + 1 ≤ 601024 := by omega
  have hv2 : u.2 + 6 ≤ 7293034 := by omega
  refine rl_1164 (d := 37) (Nat.le_refl 75) hv1 hv2 ⟨xa, ?_⟩
  rw [ya]
  generalize hp9 : I 0 (i + 1) = p
  cases b0 : wi p 0 127 with
  | false =>
    refine call_in (d := 37) (Nat.le_of_ble_eq_true rfl) rfl rfl (rw_217_0 (d := 37) (Nat.le_refl 75) (sp_append (d := 34) (Nat.le_of_ble_eq_true rfl : 59 ≤ 75) hc (fun _ => kc_x (x := 1) rfl ?_) (fun e0 e1 => (fbt b0 e0)) (fun e0 e1 => (fbt b0 e0))))
    refine kc_t (rl_1175 (d := 37) (Nat.le_refl 75) (ub3 (a := 217) hu1 (Nat.le_of_ble_eq_true rfl)) (ub4 (a := 217) hu2 (Nat.le_of_ble_eq_true rfl)) ⟨xa, ?_⟩)
    rw [ya, hp9]
    refine sr_append (d := 36) (Nat.le_of_ble_eq_true rfl : 74 ≤ 75) hr (fun _ => fun I2 q2 z2 => kc_v rfl rfl (rl_1187 (d := 37) (Nat.le_refl 75) (ub3 (a := 217) hu1 (Nat.le_of_ble_eq_true rfl)) (ub4 (a := 217) hu2 (Nat.le_of_ble_eq_true rfl)) ?_)) (fun e0 e1 => (fbt b0 e0)) (fun e0 e1 => (fbt b0 e0))
    refine if_y z2 (if_n (by decide) ?_)
    rw [ix3]
    exact law_kill (hnx I2 J (u.1 + bc 217, u.2 + bs 217) ⟨W, H, C, w, hs, t, T, hc.rf q2.f, hr.q q2⟩ (q2.f.1 0 (by decide)) (Nat.add_le_add_left (Nat.le_of_ble_eq_true rfl) _) (Nat.add_le_add_left (Nat.le_of_ble_eq_true rfl) _))
  | true =>
    by_cases b1 : t = 60
    · skip
      refine call_in (d := 37) (Nat.le_of_ble_eq_true rfl) rfl rfl (rw_217_0 (d := 37) (Nat.le_refl 75) (sp_append (d := 34) (Nat.le_of_ble_eq_true rfl : 59 ≤ 75) hc (fun e0 => (tbf b0 e0)) (fun _ _ => kc_x (x := 2) rfl ?_) (fun e0 e1 => (by omega))))
      refine kc_t (rl_1175 (d := 37) (Nat.le_refl 75) (ub3 (a := 217) hu1 (Nat.le_of_ble_eq_true rfl)) (ub4 (a := 217) hu2 (Nat.le_of_ble_eq_true rfl)) ⟨xa, ?_⟩)
      rw [ya, hp9]
      refine sr_append (d := 36) (Nat.le_of_ble_eq_true rfl : 74 ≤ 75) hr (fun e0 => (tbf b0 e0)) (fun _ _ => fun I2 q2 z2 => kc_v rfl rfl (rl_1187 (d := 37) (Nat.le_refl 75) (ub3 (a := 217) hu1 (Nat.le_of_ble_eq_true rfl)) (ub4 (a := 217) hu2 (Nat.le_of_ble_eq_true rfl)) ?_)) (fun e0 e1 => (by omega))
      refine if_y z2 (if_n (by decide) ?_)
      rw [ix3]
      exact law_kill (hnx I2 J (u.1 + bc 217, u.2 + bs 217) ⟨W, H, C, w, hs, t, T, hc.rf q2.f, hr.q q2⟩ (q2.f.1 0 (by decide)) (Nat.add_le_add_left (Nat.le_of_ble_eq_true rfl) _) (Nat.add_le_add_left (Nat.le_of_ble_eq_true rfl) _))
    · have b1 : t < 60 := by have := hr.t60; omega
      refine call_in (d := 37) (Nat.le_of_ble_eq_true rfl) rfl rfl (rw_217_0 (d := 37) (Nat.le_refl 75) (sp_append (d := 34) (Nat.le_of_ble_eq_true rfl : 59 ≤ 75) hc (fun e0 => (tbf b0 e0)) (fun e0 e1 => (by omega)) (fun _ _ => fun I1 cf c1 => kc_t (rw_217_1 (Nat.le_refl 75) ⟨v01, ?_⟩))))
      have hr1 := hr.cl cf
      have i1 : I1 0 = I 0 := cf.1 0 (by omega)
      refine kc_t (rl_1175 (d := 37) (Nat.le_refl 75) (ub3 (a := 217) hu1 (Nat.le_of_ble_eq_true rfl)) (ub4 (a := 217) hu2 (Nat.le_of_ble_eq_true rfl)) ⟨xa, ?_⟩)
      rw [ya, i1, hp9]
      refine sr_append (d := 36) (Nat.le_of_ble_eq_true rfl : 74 ≤ 75) hr1 (fun e0 => (tbf b0 e0)) (fun e0 e1 => (by omega)) (fun _ _ => fun I2 g2 r2 z2 => kc_v rfl rfl (rl_1187 (d := 37) (Nat.le_refl 75) (ub3 (a := 217) hu1 (Nat.le_of_ble_eq_true rfl)) (ub4 (a := 217) hu2 (Nat.le_of_ble_eq_true rfl)) ?_))
      refine if_y z2 (if_y rfl (if_y ((cmp1 _ _).mpr ?_) ?_))
      · exact (by rw [x2_at, if_pos ⟨rfl, rfl⟩])
      · rw [ix3]
        exact law_kill (hnx I2 _ (u.1 + bc 217, u.2 + bs 217) ⟨_, _, _, _, _, _, _, c1.out.rf g2, r2⟩ ((g2.1 0 (by decide)).trans i1) (Nat.add_le_add_left (Nat.le_of_ble_eq_true rfl) _) (Nat.add_le_add_left (Nat.le_of_ble_eq_true rfl) _))
theorem lw_clearText (hc : CSt I J W H C w hs t T) (hr : RfS I W H C w hs t T) (hi : i + 3 ≤ Ln) (hL : Ln ≤ 1536) (hu1 : u.1 + 2 ≤ 601024) (hu2 : u.2 + 12 ≤ 7293034) (hnx : ∀ I' J' u', LwS I' J' → I' 0 = I 0 → u'.1 ≤ u.1 + 1 → u'.2 ≤ u.2 + 6 → HD Ln (i + 3) u' I' J') :
    EX (cal 38) 219 QL 1220 [some (.ref 0), some (.ref 1), some (.ref 59), some (.ref 74), some (.int (Int32.ofNat i)), none, none, none, none] [] u (hp true 75 (lay Ln) I J) := by
  obtain ⟨xa, ya⟩ := ix1 hi hL
  obtain ⟨xb, yb⟩ := ix2 hi hL
  have hv1 : u.1 + 1 ≤ 601024 := by omega
  have hv2 : u.2 + 6 ≤ 7293034 := by omega
  refine rl_1220 (d := 37) (Nat.le_refl 75) hv1 hv2 (sp_clearText (d := 37) (Nat.le_of_ble_eq_true rfl : 59 ≤ 75) hc (fun I1 cf c1 => kc_v rfl rfl (rl_1224 (d := 37) (Nat.le_refl 75) hv1 hv2 ?_)))
  have hr1 := hr.cl cf
  refine sr_clearText (d := 37) (Nat.le_of_ble_eq_true rfl : 74 ≤ 75) hr1 (fun I2 g2 r2 => kc_v rfl rfl (rl_1228 (d := 37) (Nat.le_refl 75) hv1 hv2 ?_))
  refine if_y rfl ?_
  rw [ix3]
  exact law_kill (hnx I2 J u ⟨_, _, _, _, _, _, _, c1.rf g2, r2⟩ ((g2.1 0 (by decide)).trans (cf.1 0 (by omega))) (by omega) (by omega))
theorem lw_digest (hc : CSt I J W H C w hs t T) (hr : RfS I W H C w hs t T) (hi : i + 3 ≤ Ln) (hL : Ln ≤ 1536) (hu1 : u.1 + 2 ≤ 601024) (hu2 : u.2 + 12 ≤ 7293034) (hnx : ∀ I' J' u', LwS I' J' → I' 0 = I 0 → u'.1 ≤ u.1 + 1 → u'.2 ≤ u.2 + 6 → HD Ln (i + 3) u' I' J') :
    EX (cal 38) 219 QL 1290 [some (.ref 0), some (.ref 1), some (.ref 59), some (.ref 74), some (.int (Int32.ofNat i)), none, none, none, none] [] u (hp true 75 (lay Ln) I J) := by
  obtain ⟨xa, ya⟩ := ix1 hi hL
  obtain ⟨xb, yb⟩ := ix2 hi hL
  have hv1 : u.1 + 1 ≤ 601024 := by omega
  have hv2 : u.2 + 6 ≤ 7293034 := by omega
  refine rl_1290 (d := 37) (Nat.le_refl 75) hv1 hv2 (sp_digest (d := 4) (Nat.le_of_ble_eq_true rfl : 59 ≤ 75) hc (fun I1 J1 q1 => kc_v rfl rfl (rl_1294 (d := 37) (Nat.le_refl 75) hv1 hv2 ?_)))
  have cf : ClF I J I1 J1 := q1.cl
  have c1 := hc.q q1
  have hr1 := hr.cl cf
  refine sr_digest (d := 30) (Nat.le_of_ble_eq_true rfl : 74 ≤ 75) hr1 (fun I2 J2 q2 => kc_v rfl rfl (rl_1298 (d := 37) (Nat.le_refl 75) hv1 hv2 ?_))
  have g2 := q2.f
  have r2 := hr1.q q2
  refine if_y ((cmp1 _ _).mpr rfl) ?_
  rw [ix3]
  exact law_kill (hnx I2 J2 u ⟨_, _, _, _, _, _, _, c1.rf g2, r2⟩ ((g2.1 0 (by decide)).trans (cf.1 0 (by omega))) (by omega) (by omega))
end CAS
