/-! ===== the class's search: bands taken, paired, the run ===== -/
section RUN
variable {d nn Ln : Nat} {fz : Nat} {K : Post} {I : HI} {J : HJ} {W H : Nat} {C : Cel} {most : Nat}
theorem mk_at (hS : StC I W H C) (hB : BInv W H C I J (2 * (W + H))) (h5 : J 47 5 = rmask C (W * H)) {g : Nat} (hg : g < 28) (X : Prop) (Y : Int64 → Prop) (hY : Y (mkG W H C g)) :
    if (f_X0_bandFrom (Int32.ofNat g) I) = Int32.ofNat g then (if (f_X0_crossesItself (Int32.ofNat g) J) = 0 then Y ((atJ (J 41) 28 (Int32.ofNat g)) &&& (J 47 5)) else Y 0) else Y 0 := by
  have hb := hS.1.g28
  have hWH := hS.1.n
  have hW := hS.W0
  have hH := hS.H0
  have e41 : atJ (J 41) 28 (Int32.ofNat g) = J 41 g := atJ_oN hg (by decide)
  rw [e41, h5]
  unfold mkG at hY
  by_cases hG : g < 2 * (W + H)
  · have e1 : f_X0_bandFrom (Int32.ofNat g) I = Int32.ofNat g ↔ fstB W H C g = true := by
      rw [fstB_iff, ← fstG_iff hW hH (by omega) hG, ← bandFrom_iff hW hH (by omega) hG]
      unfold f_X0_bandFrom
      rw [atI_oN (by omega) (by decide), hB.en g hg, if_pos hG]
    have e2 := crs_eq (W := W) (H := H) (C := C) (J := J) hg (fun i hi => by have := pC_lt (C := C) hW hH hG hi; omega) (by rw [hB.tw g hg, if_pos hG])
    rw [e2, hB.on g hg, if_pos hG]
    refine if_c (fun q1 => if_c (fun q2 => ?_) (fun q2 => ?_)) (fun q1 => ?_)
    · rw [if_pos ⟨hG, e1.mp q1, (b2_0 _).mp q2⟩] at hY; exact hY
    · rw [if_neg (fun q => q2 ((b2_0 _).mpr q.2.2))] at hY; exact hY
    · rw [if_neg (fun q => q1 (e1.mpr q.2.1))] at hY; exact hY
  · rw [if_neg (fun q => hG q.1)] at hY
    have e1 : f_X0_bandFrom (Int32.ofNat g) I = Int32.ofNat g := by
      unfold f_X0_bandFrom
      rw [atI_oN hg (by decide), hB.en g hg, if_neg hG, if_pos rfl]
    have e3 : J 41 g &&& rmask C (W * H) = 0 := by
      rw [hB.on g hg, if_neg hG]
      exact Int64.zero_and
    rw [if_pos e1, e3]
    exact if_c (fun _ => hY) (fun _ => hY)
theorem sp_takeBands (hn : 59 ≤ nn) (hS : StC I W H C) (hB : BInv W H C I J (2 * (W + H))) (h5 : J 47 5 = rmask C (W * H)) (hK : ∀ J', (∀ a, a ≠ 48 → J' a = J a) → (∀ g, g < 28 → J' 48 g = mkG W H C g) → K (.inl none) (hp fz nn (lay Ln) I J')) :
    cal (d + 3) 40 [.ref 47, .ref 35] (hp fz nn (lay Ln) I J) K := by
  have lp : ∀ m q : Nat, q + m = 28 → ∀ J', (∀ a, a ≠ 48 → J' a = J a) → (∀ g, g < q → J' 48 g = mkG W H C g) → EX (cal (d + 2)) 40 K 2 [some (.ref 47), some (.ref 35), some (.int (Int32.ofNat q)), none] [] (0, 0) (hp fz nn (lay Ln) I J') := by
    intro m
    induction m with
    | zero =>
      intro q hq J' hf h
      obtain rfl : q = 28 := hq
      exact r_40_2 hn (if_y (Int32.le_refl _) (hK J' hf h))
    | succ m ih =>
      intro q hq J' hf h
      have hB' : BInv W H C I J' (2 * (W + H)) := BInv.mk hB.en hB.ln hB.tn hB.rn (fun g hg => by rw [hf 41 (by decide)]; exact hB.on g hg) (fun g hg => by rw [hf 42 (by decide)]; exact hB.tw g hg) hB.pa hB.ro hB.co hB.et hB.nf hB.nc
      refine r_40_2 hn (if_n (le_n (a := 28) (by omega) (by decide)) ?_)
      rw [oN_succ]
      refine mk_at hS hB' (by rw [hf 47 (by decide)]; exact h5) (show q < 28 by omega) True (fun v => EX (cal (d + 2)) 40 K 2 [some (.ref 47), some (.ref 35), some (.int (Int32.ofNat (q + 1))), none] [] (0, 0) (hp fz nn (lay Ln) I (pJ2 J' 48 28 (Int32.ofNat q) v))) ?_
      rw [pJ2_oN (by omega) (by decide)]
      refine ih (q + 1) (by omega) _ (fun a ha => ?_) (fun g hg => ?_)
      · rw [x2_other _ _ _ ha]; exact hf a ha
      · rw [x2_at]
        by_cases e : g = q
        · subst e; rw [if_pos ⟨rfl, rfl⟩]
        · rw [if_neg (fun h => e h.2)]; exact h g (by omega)
  exact call_in (Nat.le_of_ble_eq_true rfl) rfl rfl (r_40_0 hn (lp 28 0 (by omega) J (fun _ _ => rfl) (fun g h => absurd h (by omega))))
theorem sp_pair (hn : 59 ≤ nn) (hB : BInv W H C I J (2 * (W + H))) (hK : ∀ I', (∀ a, ¬ (49 ≤ a ∧ a ≤ 50) → I' a = I a) → (∀ c, c < 49 → I' 49 c = loS W H C c) → (∀ c, c < 49 → I' 50 c = hiS W H C c) → K (.inl none) (hp fz nn (lay Ln) I' J)) :
    cal (d + 3) 41 [.ref 47, .ref 35] (hp fz nn (lay Ln) I J) K := by
  have lp : ∀ m q : Nat, q + m = 49 → ∀ I', (∀ a, ¬ (49 ≤ a ∧ a ≤ 50) → I' a = I a) → (∀ c, c < q → I' 49 c = loS W H C c) → (∀ c, c < q → I' 50 c = hiS W H C c) → EX (cal (d + 2)) 41 K 2 [some (.ref 47), some (.ref 35), some (.int (Int32.ofNat q)), none, none] [] (0, 0) (hp fz nn (lay Ln) I' J) := by
    intro m
    induction m with
    | zero =>
      intro q hq I' hf h1 h2
      obtain rfl : q = 49 := hq
      exact r_41_2 hn (if_y (Int32.le_refl _) (hK I' hf h1 h2))
    | succ m ih =>
      intro q hq I' hf h1 h2
      refine r_41_2 hn (if_n (le_n (a := 49) (by omega) (by decide)) ?_)
      rw [oN_succ, atI_oN (by omega) (by decide), atI_oN (by omega) (by decide), hf 44 (by omega), hf 45 (by omega), hB.ro q (by omega), hB.co q (by omega), pI2_oN (by omega) (by decide), pI2_oN (by omega) (by decide)]
      refine ih (q + 1) (by omega) _ (fun a ha => ?_) (fun c hc => ?_) (fun c hc => ?_)
      · rw [w2_other _ _ _ (by omega), w2_other _ _ _ (by omega)]; exact hf a ha
      · rw [w2_ne _ _ (by decide), w2_at]
        by_cases e : c = q
        · subst e; rw [if_pos ⟨rfl, rfl⟩]; rfl
        · rw [if_neg (fun h => e h.2)]; exact h1 c (by omega)
      · rw [w2_at]
        by_cases e : c = q
        · subst e; rw [if_pos ⟨rfl, rfl⟩]; rfl
        · rw [if_neg (fun h => e h.2), w2_ne _ _ (by decide)]; exact h2 c (by omega)
  exact call_in (Nat.le_of_ble_eq_true rfl) rfl rfl (r_41_0 hn (lp 49 0 (by omega) I (fun _ _ => rfl) (fun g h => absurd h (by omega)) (fun g h => absurd h (by omega))))
theorem sp_run (hn : 59 ≤ nn) (hS : StC I W H C) (hB : BInv W H C I J (2 * (W + H))) (h1 : 1 ≤ most) (h50 : most ≤ 50)
    (hK : ∀ I' J', (∀ a, ¬ (47 ≤ a ∧ a ≤ 52) → I' a = I a) → (∀ a, ¬ (47 ≤ a ∧ a ≤ 48) → J' a = J a) → SrR I' (runC W H C most) → K (.inl none) (hp fz nn (lay Ln) I' J')) :
    cal (d + 33) 39 [.ref 47, .ref 2, .ref 35, .int (Int32.ofNat most)] (hp fz nn (lay Ln) I J) K := by
  have h49 := hS.1.n
  refine call_in (Nat.le_of_ble_eq_true rfl) rfl rfl (r_39_0 hn (sp_runeMask (d := d + 28) hn hS.1 (kc_v rfl rfl (r_39_5 hn ?_))))
  rw [hS.rm]
  generalize hI1 : w2 (w2 (w2 (w2 (w2 (w2 I 47 6 (Int32.ofNat most)) 47 7 0) 47 8 0) 47 9 0) 47 10 (-1)) 47 11 0 = I1
  generalize hJ1 : x2 J 47 5 (rmask C (W * H)) = J1
  have f1 : ∀ a, a ≠ 47 → I1 a = I a := fun a ha => by rw [← hI1, w2_other _ _ _ ha, w2_other _ _ _ ha, w2_other _ _ _ ha, w2_other _ _ _ ha, w2_other _ _ _ ha, w2_other _ _ _ ha]
  have g1 : ∀ a, a ≠ 47 → J1 a = J a := fun a ha => by rw [← hJ1, x2_other _ _ _ ha]
  have hS1 : StC I1 W H C := hS.mono (f1 2 (by decide)) (f1 3 (by decide))
  have hB1 : BInv W H C I1 J1 (2 * (W + H)) := by
    refine BInv.mk (fun g hg => ?_) (fun g hg => ?_) (fun g hg => ?_) (fun g hg => ?_) (fun g hg => ?_) (fun g hg => ?_) (fun g hg j hj => ?_) (fun c hc => ?_) (fun c hc => ?_) (fun c hc => ?_) ?_ ?_
    · rw [f1 37 (by decide)]; exact hB.en g hg
    · rw [f1 38 (by decide)]; exact hB.ln g hg
    · rw [f1 39 (by decide)]; exact hB.tn g hg
    · rw [f1 40 (by decide)]; exact hB.rn g hg
    · rw [g1 41 (by decide)]; exact hB.on g hg
    · rw [g1 42 (by decide)]; exact hB.tw g hg
    · rw [f1 43 (by decide)]; exact hB.pa g hg j hj
    · rw [f1 44 (by decide)]; exact hB.ro c hc
    · rw [f1 45 (by decide)]; exact hB.co c hc
    · rw [f1 46 (by decide)]; exact hB.et c hc
    · rw [f1 35 (by decide)]; exact hB.nf
    · rw [f1 35 (by decide)]; exact hB.nc
  have e5 : J1 47 5 = rmask C (W * H) := by rw [← hJ1, x2_at, if_pos ⟨rfl, rfl⟩]
  have e6 : I1 47 6 = Int32.ofNat most := by rw [← hI1]; rfl
  have e7 : I1 47 7 = 0 := by rw [← hI1]; rfl
  have e8 : I1 47 8 = 0 := by rw [← hI1]; rfl
  have e9 : I1 47 9 = 0 := by rw [← hI1]; rfl
  have e10 : I1 47 10 = -1 := by rw [← hI1]; rfl
  have e11 : I1 47 11 = 0 := by rw [← hI1]; rfl
  refine sp_takeBands (d := d + 29) hn hS1 hB1 e5 (fun J2 g2 m2 => kc_0 rfl rfl (r_39_43 hn ?_))
  have hB2 : BInv W H C I1 J2 (2 * (W + H)) := BInv.mk hB1.en hB1.ln hB1.tn hB1.rn (fun g hg => by rw [g2 41 (by decide)]; exact hB1.on g hg) (fun g hg => by rw [g2 42 (by decide)]; exact hB1.tw g hg) hB1.pa hB1.ro hB1.co hB1.et hB1.nf hB1.nc
  refine sp_pair (d := d + 29) hn hB2 (fun I3 f3 l3 h3 => kc_0 rfl rfl (r_39_48 hn ?_))
  have hE : SrE W H C most I3 J2 := SrE.mk (by rw [g2 47 (by decide)]; exact e5) (by rw [f3 47 (by omega)]; exact e6) m2 l3 h3
  have hR : SrR I3 (0, 0, false, 0, []) := by
    have f47 := f3 47 (by omega)
    refine SrR.mk ?_ ?_ ?_ ?_ ?_ (fun k hk => absurd hk (by show ¬ k < 0; omega))
    · rw [f47]; exact e7
    · rw [f47]; exact e8
    · rw [f47]; exact e11
    · rw [f47]; exact e9
    · rw [f47]; exact e10
  refine sp_look (d := d) hn h49 h50 29 [] 0 (0, 0, false, 0, []) I3 _ rfl hE hR (fun k hk => absurd hk (by show ¬ k < 0; omega)) ⟨by decide, by show 0 ≤ most; omega, by decide, by decide⟩ (by show 0 < most; omega) (fun I4 f4 r4 _ => kc_0 rfl rfl (r_39_54 hn (hK I4 J2 (fun a ha => ?_) (fun a ha => ?_) r4)))
  · rw [← f1 a (by omega), ← f3 a (by omega)]
    funext k
    exact f4 a k (by omega)
  · rw [g2 a (by omega), g1 a (by omega)]
end RUN
