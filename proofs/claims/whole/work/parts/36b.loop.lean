/-! ===== parse, undo; the law's loop ===== -/
section LOP
variable {Ln i : Nat} {I : HI} {J : HJ} {W H : Nat} {C : Cel} {w : Wds} {hs : List Sav} {t : Nat} {T : Nat → Int32} {u : Nat × Nat}
theorem lw_parse (hc : CSt I J W H C w hs t T) (hr : RfS I W H C w hs t T) (hi : i + 3 ≤ Ln) (hL : Ln ≤ 1536) (hu1 : u.1 + 2 ≤ 601024) (hu2 : u.2 + 12 ≤ 7293034) (hnx : ∀ I' J' u', LwS I' J' → I' 0 = I 0 → u'.1 ≤ u.1 + 1 → u'.2 ≤ u.2 + 6 → HD Ln (i + 3) u' I' J') :
    EX (cal 38) 219 QL 1233 [some (.ref 0), some (.ref 1), some (.ref 59), some (.ref 74), some (.int (Int32.ofNat i)), none, none, none, none] [] u (hp true 75 (lay Ln) I J) := by
  have hv1 : u.1 + 1 ≤ 601024 := by omega
  have hv2 : u.2 + 6 ≤ 7293034 := by omega
  cases hp9 : perr T t with
  | some k =>
    refine rl_1233 (d := 37) (Nat.le_refl 75) hv1 hv2 (sp_parse (d := 31) (Nat.le_of_ble_eq_true rfl : 59 ≤ 75) hc (fun k' h' => kc_v rfl rfl (rl_1237 (d := 37) (Nat.le_refl 75) hv1 hv2 ?_)) (fun h' => by rw [hp9] at h'; cases h'))
    rw [hp9] at h'
    cases h'
    refine sr_parse (d := 33) (Nat.le_of_ble_eq_true rfl : 74 ≤ 75) hr (fun k' h' I2 g2 r2 => kc_v rfl rfl (rl_1241 (d := 37) (Nat.le_refl 75) hv1 hv2 ?_)) (fun h' => by rw [hp9] at h'; cases h')
    rw [hp9] at h'
    cases h'
    generalize -10 - Int32.ofNat k = v
    refine if_y rfl ?_
    rw [ix3]
    exact law_kill (hnx I2 J u ⟨W, H, C, w, hs, t, T, hc.rf g2, r2⟩ (g2.1 0 (by decide)) (by omega) (by omega))
  | none =>
    refine rl_1233 (d := 37) (Nat.le_refl 75) hv1 hv2 (sp_parse (d := 31) (Nat.le_of_ble_eq_true rfl : 59 ≤ 75) hc (fun k' h' => by rw [hp9] at h'; cases h') (fun _ I1 J1 cf c1 => kc_v rfl rfl (rl_1237 (d := 37) (Nat.le_refl 75) hv1 hv2 ?_)))
    have hr1 := hr.cl cf
    refine sr_parse (d := 33) (Nat.le_of_ble_eq_true rfl : 74 ≤ 75) hr1 (fun k' h' => by rw [hp9] at h'; cases h') (fun _ I2 g2 r2 => kc_v rfl rfl (rl_1241 (d := 37) (Nat.le_refl 75) hv1 hv2 ?_))
    refine if_y rfl ?_
    rw [ix3]
    exact law_kill (hnx I2 J1 u ⟨_, _, _, _, _, _, _, c1.rf g2, r2⟩ ((g2.1 0 (by decide)).trans (cf.1 0 (by omega))) (by omega) (by omega))
theorem lw_undo (hc : CSt I J W H C w hs t T) (hr : RfS I W H C w hs t T) (hi : i + 3 ≤ Ln) (hL : Ln ≤ 1536) (hu1 : u.1 + 2 ≤ 601024) (hu2 : u.2 + 12 ≤ 7293034) (hnx : ∀ I' J' u', LwS I' J' → I' 0 = I 0 → u'.1 ≤ u.1 + 1 → u'.2 ≤ u.2 + 6 → HD Ln (i + 3) u' I' J') :
    EX (cal 38) 219 QL 1246 [some (.ref 0), some (.ref 1), some (.ref 59), some (.ref 74), some (.int (Int32.ofNat i)), none, none, none, none] [] u (hp true 75 (lay Ln) I J) := by
  have hv1 : u.1 + 1 ≤ 601024 := by omega
  have hv2 : u.2 + 6 ≤ 7293034 := by omega
  have hw1 := ub3 (a := 218) hu1 (Nat.le_of_ble_eq_true rfl)
  have hw2 := ub4 (a := 218) hu2 (Nat.le_of_ble_eq_true rfl)
  refine rl_1246 (d := 37) (Nat.le_refl 75) hv1 hv2 ?_
  cases hs with
  | nil =>
    refine call_in (d := 37) (Nat.le_of_ble_eq_true rfl) rfl rfl (rw_218_0 (d := 37) (Nat.le_refl 75) (sp_undo0 (d := 36) (Nat.le_of_ble_eq_true rfl : 59 ≤ 75) hc (kc_x (x := 1) rfl ?_)))
    refine kc_t (rl_1251 (d := 37) (Nat.le_refl 75) hw1 hw2 ?_)
    refine sr_undo0 (d := 36) (Nat.le_of_ble_eq_true rfl : 74 ≤ 75) hr (fun I2 q2 z2 => kc_v rfl rfl (rl_1257 (d := 37) (Nat.le_refl 75) hw1 hw2 ?_))
    refine if_y z2 (if_n (by decide) ?_)
    rw [ix3]
    exact law_kill (hnx I2 J _ ⟨W, H, C, w, [], t, T, hc.rf q2.f, hr.q q2⟩ (q2.f.1 0 (by decide)) (Nat.add_le_add_left (Nat.le_of_ble_eq_true rfl) _) (Nat.add_le_add_left (Nat.le_of_ble_eq_true rfl) _))
  | cons v hs =>
    refine call_in (d := 37) (Nat.le_of_ble_eq_true rfl) rfl rfl (rw_218_0 (d := 37) (Nat.le_refl 75) (sp_undo (d := 30) (Nat.le_of_ble_eq_true rfl : 59 ≤ 75) hc (fun I1 J1 cf c1 => kc_t (rw_218_1 (Nat.le_refl 75) ⟨v01, ?_⟩))))
    have hr1 := hr.cl cf
    have i1 : I1 0 = I 0 := cf.1 0 (by omega)
    refine kc_t (rl_1251 (d := 37) (Nat.le_refl 75) hw1 hw2 ?_)
    refine sr_undo (d := 36) (Nat.le_of_ble_eq_true rfl : 74 ≤ 75) hr1 (fun I2 g2 r2 z2 => kc_v rfl rfl (rl_1257 (d := 37) (Nat.le_refl 75) hw1 hw2 ?_))
    refine if_y z2 (if_y rfl (if_y ((cmp1 _ _).mpr ?_) ?_))
    · exact (by rw [x2_at, if_pos ⟨rfl, rfl⟩])
    · rw [ix3]
      exact law_kill (hnx I2 _ _ ⟨_, _, _, _, _, _, _, c1.out.rf g2, r2⟩ ((g2.1 0 (by decide)).trans i1) (Nat.add_le_add_left (Nat.le_of_ble_eq_true rfl) _) (Nat.add_le_add_left (Nat.le_of_ble_eq_true rfl) _))
theorem and31 (v : Int32) : ∃ k, k < 32 ∧ v &&& 31 = Int32.ofNat k := by
  refine ⟨(v &&& 31).toBitVec.toNat, ?_, ?_⟩
  · rw [Int32.toBitVec_and, BitVec.toNat_and]
    exact Nat.lt_of_le_of_lt Nat.and_le_right (by decide)
  · apply Int32.toBitVec_inj.mp
    rw [Int32.toBitVec_ofNat', BitVec.ofNat_toNat, BitVec.setWidth_eq]
theorem len3 (hL : Ln ≤ 1536) : (Int32.ofNat Ln - 3).toInt = (Ln : Int) - 3 := by
  by_cases h : 3 ≤ Ln
  · have : Int32.ofNat Ln - 3 = Int32.ofNat (Ln - 3) := oN_sub (b := 3) h
    rw [this, oN_toInt (by omega)]
    omega
  · have : Ln = 0 ∨ Ln = 1 ∨ Ln = 2 := by omega
    rcases this with rfl | rfl | rfl <;> decide
theorem law_loop (hL : Ln ≤ 1536) : ∀ (n i : Nat) (u : Nat × Nat) (I : HI) (J : HJ), Ln + 3 - i ≤ n → i ≤ Ln + 3 → LwS I J → u.1 ≤ 100 + i → u.2 ≤ 10000 + 2 * i → HD Ln i u I J := by
  intro n
  induction n with
  | zero =>
    intro i u I J hn hi _ _ _
    obtain rfl : i = Ln + 3 := by omega
    refine law_hd (rl_25 (d := 37) (Nat.le_refl 75) (by omega) (by omega) (if_y ?_ rfl))
    rw [Int32.lt_iff_toInt_lt, len3 hL, oN_toInt (by omega)]
    omega
  | succ n ih =>
    intro i u I J hn hi hS h1 h2
    refine law_hd (rl_25 (d := 37) (Nat.le_refl 75) (by omega) (by omega) ?_)
    by_cases hlt : Ln < i + 3
    · refine if_y ?_ rfl
      rw [Int32.lt_iff_toInt_lt, len3 hL, oN_toInt (by omega)]
      omega
    · refine if_n ?_ ?_
      · rw [Int32.lt_iff_toInt_lt, len3 hL, oN_toInt (by omega)]
        omega
      · rw [oN_clamp (by omega)]
        refine ⟨oN_vin (by omega) (by omega), ?_⟩
        obtain ⟨W, H, C, w, hs, t, T, hc, hr⟩ := hS
        have hi3 : i + 3 ≤ Ln := by omega
        have hu1 : u.1 + 2 ≤ 601024 := by omega
        have hu2 : u.2 + 12 ≤ 7293034 := by omega
        have hnx : ∀ I' J' u', LwS I' J' → I' 0 = I 0 → u'.1 ≤ u.1 + 1 → u'.2 ≤ u.2 + 6 → HD Ln (i + 3) u' I' J' := fun I' J' u' hS' _ k1 k2 => ih (i + 3) u' I' J' (by omega) (by omega) hS' (by omega) (by omega)
        obtain ⟨k, hk, ek⟩ := and31 (I 0 i)
        rw [ek]
        have h32 : k = 0 ∨ k = 1 ∨ k = 2 ∨ k = 3 ∨ k = 4 ∨ k = 5 ∨ k = 6 ∨ k = 7 ∨ k = 8 ∨ k = 9 ∨ k = 10 ∨ k = 11 ∨ k = 12 ∨ k = 13 ∨ k = 14 ∨ k = 15 ∨ k = 16 ∨ k = 17 ∨ k = 18 ∨ k = 19 ∨ k = 20 ∨ k = 21 ∨ k = 22 ∨ k = 23 ∨ k = 24 ∨ (25 ≤ k) := by omega
        rcases h32 with rfl | rfl | rfl | rfl | rfl | rfl | rfl | rfl | rfl | rfl | rfl | rfl | rfl | rfl | rfl | rfl | rfl | rfl | rfl | rfl | rfl | rfl | rfl | rfl | rfl | h25
        · exact e_tsw (cx cd_219_39 rfl rfl) (if_n (by decide) (lw_setSize hc hr hi3 hL hu1 hu2 hnx))
        · exact e_tsw (cx cd_219_39 rfl rfl) (if_n (by decide) (lw_setCell hc hr hi3 hL hu1 hu2 hnx))
        · exact e_tsw (cx cd_219_39 rfl rfl) (if_n (by decide) (lw_turnCorners hc hr hi3 hL hu1 hu2 hnx))
        · exact e_tsw (cx cd_219_39 rfl rfl) (if_n (by decide) (lw_turnStone hc hr hi3 hL hu1 hu2 hnx))
        · exact e_tsw (cx cd_219_39 rfl rfl) (if_n (by decide) (lw_addWord hc hr hi3 hL hu1 hu2 hnx))
        · exact e_tsw (cx cd_219_39 rfl rfl) (if_n (by decide) (lw_removeWord hc hr hi3 hL hu1 hu2 hnx))
        · exact e_tsw (cx cd_219_39 rfl rfl) (if_n (by decide) (lw_cell hc hr hi3 hL hu1 hu2 hnx))
        · exact e_tsw (cx cd_219_39 rfl rfl) (if_n (by decide) (lw_value hc hr hi3 hL hu1 hu2 hnx))
        · exact e_tsw (cx cd_219_39 rfl rfl) (if_n (by decide) (lw_word hc hr hi3 hL hu1 hu2 hnx))
        · exact e_tsw (cx cd_219_39 rfl rfl) (if_n (by decide) (lw_band hc hr hi3 hL hu1 hu2 hnx))
        · exact e_tsw (cx cd_219_39 rfl rfl) (if_n (by decide) (lw_cellOf hc hr hi3 hL hu1 hu2 hnx))
        · exact e_tsw (cx cd_219_39 rfl rfl) (if_n (by decide) (lw_read hc hr hi3 hL hu1 hu2 hnx))
        · exact e_tsw (cx cd_219_39 rfl rfl) (if_n (by decide) (lw_wordsOf hc hr hi3 hL hu1 hu2 hnx))
        · exact e_tsw (cx cd_219_39 rfl rfl) (if_n (by decide) (lw_alike hc hr hi3 hL hu1 hu2 hnx))
        · exact e_tsw (cx cd_219_39 rfl rfl) (if_n (by decide) (lw_choices hc hr hi3 hL hu1 hu2 hnx))
        · exact e_tsw (cx cd_219_39 rfl rfl) (if_n (by decide) (lw_nodes hc hr hi3 hL hu1 hu2 hnx))
        · exact e_tsw (cx cd_219_39 rfl rfl) (if_n (by decide) (lw_chosen hc hr hi3 hL hu1 hu2 hnx))
        · exact e_tsw (cx cd_219_39 rfl rfl) (if_n (by decide) (lw_fewest hc hr hi3 hL hu1 hu2 hnx))
        · exact e_tsw (cx cd_219_39 rfl rfl) (if_n (by decide) (lw_repair hc hr hi3 hL hu1 hu2 hnx))
        · exact e_tsw (cx cd_219_39 rfl rfl) (if_n (by decide) (lw_told hc hr hi3 hL hu1 hu2 hnx))
        · exact e_tsw (cx cd_219_39 rfl rfl) (if_n (by decide) (lw_append hc hr hi3 hL hu1 hu2 hnx))
        · exact e_tsw (cx cd_219_39 rfl rfl) (if_n (by decide) (lw_clearText hc hr hi3 hL hu1 hu2 hnx))
        · exact e_tsw (cx cd_219_39 rfl rfl) (if_n (by decide) (lw_parse hc hr hi3 hL hu1 hu2 hnx))
        · exact e_tsw (cx cd_219_39 rfl rfl) (if_n (by decide) (lw_undo hc hr hi3 hL hu1 hu2 hnx))
        · exact e_tsw (cx cd_219_39 rfl rfl) (if_n (by decide) (lw_digest hc hr hi3 hL hu1 hu2 hnx))
        · have hd : EX (cal 38) 219 QL 1304 [some (.ref 0), some (.ref 1), some (.ref 59), some (.ref 74), some (.int (Int32.ofNat i)), none, none, none, none] [] u (hp true 75 (lay Ln) I J) := by
            refine rl_1304 (d := 37) (Nat.le_refl 75) (by omega) (by omega) ?_
            rw [ix3]
            exact hnx I J u ⟨W, H, C, w, hs, t, T, hc, hr⟩ rfl (by omega) (by omega)
          refine e_tsw (cx cd_219_39 rfl rfl) (if_y (Or.inr ?_) hd)
          rw [oN_toInt (by omega)]
          omega
end LOP
