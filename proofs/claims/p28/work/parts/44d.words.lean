section AWS
variable {d k nn Ln fz : Nat} {Q : Post} {pc : Nat} {L : Lc} {r : List Value} {u : Nat × Nat} {I : HI} {J : HJ} {W H : Nat} {C : Cel} {w : Wds} {hs : List Sav} {t : Nat} {T : Nat → Int32}
theorem aw_in (hn : 59 ≤ nn) {g f : Nat} {a b : Int32} (hg : g < 2 * (W + H)) : ∀ m e I, e + m = (rdg W H C g).length → CSt I J W H C w hs t T → f ≤ e → (∀ j, f ≤ j → j < e → isW ((rdg W H C g).getD j 0)) →
    (∀ e I', f ≤ e → e ≤ (rdg W H C g).length → (e = (rdg W H C g).length ∨ (rdg W H C g).getD e 0 = 32) → (∀ j, f ≤ j → j < e → isW ((rdg W H C g).getD j 0)) → QF I J I' J →
      CA (cal (d + 41)) 153 [.ref 1, .int (Int32.ofNat g), .int (Int32.ofNat f), .int (Int32.ofNat e)] (hp (fz + 2) nn (lay Ln) I' J) (fun w => KW (d + 41) 154 Q 53 [some (.ref 1), some (.int (Int32.ofNat g)), some (.int (a + 1)), some (.int b), some (.int (Int32.ofNat f)), some (.int (Int32.ofNat e))] [.int b] (0, 0) w 153 (hp (fz + 2) nn (lay Ln) I' J))) →
    EX (cal (d + 41)) 154 Q 22 [some (.ref 1), some (.int (Int32.ofNat g)), some (.int a), some (.int b), some (.int (Int32.ofNat f)), some (.int (Int32.ofNat e))] [] (0, 0) (hp (fz + 2) nn (lay Ln) I J) := by
  intro m
  induction m with
  | zero =>
    intro e I he hc hf hw h
    have hd := hc.dim
    have h49 := hc.w49
    have hL := rdg_len (C := C) (by omega) (by omega) h49 hg
    have : e = (rdg W H C g).length := he
    subst this
    refine q_154_22 hn (lk_read (d := d + 1) hn hc (by rw [in_of hg (by omega), nn_of (by omega)]; rfl) fun I' q => ?_)
    rw [oN_clamp (by omega), rdB_end hL]
    exact q_154_29 hn (if_y (by decide) (h _ I' hf (Nat.le_refl _) (Or.inl rfl) hw q))
  | succ m ih =>
    intro e I he hc hf hw h
    have hd := hc.dim
    have h49 := hc.w49
    have hL := rdg_len (C := C) (by omega) (by omega) h49 hg
    refine q_154_22 hn (lk_read (d := d + 1) hn hc (by rw [in_of hg (by omega), nn_of (by omega)]; rfl) fun I' q => ?_)
    rw [oN_clamp (by omega), rdB_at hL (by omega)]
    have hwf : WFr (rdg W H C g) := rdW_WF _ _
    rcases hwf.1 e (by omega) with h32 | hW
    · rw [h32]
      exact q_154_29 hn (if_y (by decide) (h _ I' hf (by omega) (Or.inr h32) hw q))
    · refine q_154_29 hn (if_n (fun z => ?_) ?_)
      · have := Int32.le_trans hW.1 z
        exact absurd this (by decide)
      · rw [oN_succ]
        refine ih (e + 1) I' (by omega) (hc.q q) (by omega) (fun j h1 h2 => ?_) fun e2 I2 h1 h2 h3 h4 h5 => h e2 I2 h1 h2 h3 h4 (q.tr h5)
        by_cases z : j < e
        · exact hw j h1 z
        · rw [show j = e by omega]; exact hW
theorem ls_lk (hgw : GoodW w) (h8 : ∀ i, i < w.1 → 1 ≤ w.2.1 i ∧ w.2.1 i ≤ 8) {Lr : List Int32} {s len : Nat} (hr : ∀ k, k < len → isW (Lr.getD (s + k) 0)) : anyB (lkB w (fun k => Lr.getD k 0) s len) w.1 = lsR w Lr s len := by
  show _ = anyB (wEq w (fun k => Lr.getD k 0) s len) w.1
  exact anyB_congr fun i hi => lkB_eq (h8 i hi) (hgw i hi) hr
theorem aw_out (hn : 59 ≤ nn) (hgw : GoodW w) {g : Nat} (hg : g < 2 * (W + H)) : ∀ m f I a b, (rdg W H C g).length - f < m → CSt I J W H C w hs t T →
    ((f < (rdg W H C g).length ∧ isW ((rdg W H C g).getD f 0) ∧ scS (fun k => (rdg W H C g).getD k 0) (rdg W H C g).length (lsR w (rdg W H C g)) f = (a, b, f)) ∨ (f = (rdg W H C g).length ∧ (scS (fun k => (rdg W H C g).getD k 0) (rdg W H C g).length (lsR w (rdg W H C g)) ((rdg W H C g).length + 1)).1 = a ∧ (scS (fun k => (rdg W H C g).getD k 0) (rdg W H C g).length (lsR w (rdg W H C g)) ((rdg W H C g).length + 1)).2.1 = b)) →
    (∀ I', QF I J I' J → Q (.inl (some (.int 1))) (hp (fz + 2) nn (lay Ln) I' J)) →
    EX (cal (d + 41)) 154 Q 7 [some (.ref 1), some (.int (Int32.ofNat g)), some (.int (Int32.ofNat a)), some (.int (Int32.ofNat b)), some (.int (Int32.ofNat f)), none] [] (0, 0) (hp (fz + 2) nn (lay Ln) I J) := by
  intro m
  induction m with
  | zero => intro f I a b h; omega
  | succ m ih =>
    intro f I a b hm hc hst h
    have hd := hc.dim
    have h49 := hc.w49
    have hL := rdg_len (C := C) (by omega) (by omega) h49 hg
    have hwf : WFr (rdg W H C g) := rdW_WF _ _
    have hf : f ≤ (rdg W H C g).length := by rcases hst with h | h <;> omega
    refine q_154_7 hn (lk_read (d := d + 1) hn hc (by rw [in_of hg (by omega), nn_of (by omega)]; rfl) fun I1 q1 => ?_)
    rw [oN_clamp (by omega)]
    have c1 := hc.q q1
    rcases hst with ⟨hlt, hW, hsc⟩ | ⟨hfe, ha, hb⟩
    · rw [rdB_at hL hlt]
      refine q_154_14 hn (if_n (fun z => ?_) ?_)
      · rw [z] at hW; exact absurd hW.1 (by decide)
      · refine aw_in (d := d) hn hg ((rdg W H C g).length - f) f I1 (by omega) c1 (Nat.le_refl _) (fun j h1 h2 => absurd h1 (by omega)) fun e I2 h1 h2 h3 h4 q2 => ?_
        have hfe : f < e := by
          rcases Nat.lt_or_ge f e with z | z
          · exact z
          · have : e = f := by omega
            subst this
            rcases h3 with z | z
            · omega
            · exact absurd z (isW_32 hW)
        have e1 := scS_scan (r := fun k => (rdg W H C g).getD k 0) (n := (rdg W H C g).length) (lst := lsR w (rdg W H C g)) h1 h2 (fun j x y => isW_32 (h4 j x y))
        rw [hsc] at e1
        have e2 := scS_word e1 hfe h3
        have c2 := c1.q q2
        refine lm_listed (d := d) hn c2 hg h1 h2 fun I3 q3 => ?_
        rw [ls_lk hgw c2.wd.2.2.2.1 (fun k hk => h4 (f + k) (by omega) (by omega))]
        have c3 := c2.q q3
        have q13 := (q1.tr q2).tr q3
        have fin : ∀ x : Nat, x = (if lsR w (rdg W H C g) f (e - f) then 1 else 0) → EX (cal (d + 41)) 154 Q 61 [some (.ref 1), some (.int (Int32.ofNat g)), some (.int (Int32.ofNat a + 1)), none, none, some (.int (Int32.ofNat e))] [.int (Int32.ofNat x), .int (Int32.ofNat b)] (0, 0) (hp (fz + 2) nn (lay Ln) I3 J) := by
          intro x hx
          refine q_154_61 hn (lk_read (d := d + 1) hn c3 (by rw [in_of hg (by omega), nn_of (by omega)]; rfl) fun I4 q4 => ?_)
          rw [oN_clamp (by omega), oN_add, oN_succ, hx]
          have c4 := c3.q q4
          have q14 := q13.tr q4
          rcases h3 with z | z
          · subst z
            rw [rdB_end hL]
            refine q_154_70 hn (if_n (by decide) (q_154_84 hn (ih _ I4 _ _ (by omega) c4 (Or.inr ⟨rfl, ?_, ?_⟩) fun I5 q5 => h I5 (q14.tr q5))))
            · rw [e2]
            · rw [e2]
          · have hen : e < (rdg W H C g).length := by
              rcases Nat.lt_or_ge e (rdg W H C g).length with y | y
              · exact y
              · have : e = (rdg W H C g).length := by omega
                rw [this, List.getD_eq_getElem?_getD, List.getElem?_eq_none (Nat.le_refl _)] at z
                exact absurd z (by decide)
            obtain ⟨-, z2, z3⟩ := hwf.2 e hen z
            rw [rdB_at hL hen]
            refine q_154_70 hn (if_y z ?_)
            rw [oN_succ]
            exact q_154_84 hn (ih _ I4 _ _ (by omega) c4 (Or.inl ⟨z2, z3, e2⟩) fun I5 q5 => h I5 (q14.tr q5))
        refine q_154_53 hn ?_
        cases hl : lsR w (rdg W H C g) f (e - f) with
        | false => exact if_y rfl (fin 0 (by rw [hl]; rfl))
        | true => exact if_n (by decide) (fin 1 (by rw [hl]; rfl))
    · subst hfe
      rw [rdB_end hL]
      refine q_154_14 hn (if_y rfl (lk_wordsOf (d := d + 1) hn c1 (in_of hg (by omega)) fun I2 q2 => ?_))
      rw [oN_clamp (by omega)]
      have hle := scS_le (fun k => (rdg W H C g).getD k 0) (rdg W H C g).length (lsR w (rdg W H C g)) ((rdg W H C g).length + 1)
      rw [ha, hb] at hle
      have hsc : score w (rdg W H C g) = if 0 < a ∧ b = a then Int32.ofNat b else -1 - Int32.ofNat b := by
        unfold score scR
        rw [ha, hb]
      have done : EX (cal (d + 41)) 154 Q 118 [none, none, none, none, none, none] [.int 1] (0, 0) (hp (fz + 2) nn (lay Ln) I2 J) := q_154_118 hn ⟨Or.inr rfl, h I2 (q1.tr q2)⟩
      refine q_154_94 hn (if_c (fun z => ?_) (fun z => ?_))
      · have z := (oN_le (a := a) (b := 0) (by omega) (by decide)).mp z
        rw [hsc, if_neg (by omega)]
        refine q_154_107 hn (q_154_110 hn ?_)
        rw [if_pos rfl]
        exact done
      · have z : 0 < a := by
          apply Classical.byContradiction
          intro y
          exact z ((oN_le (a := a) (b := 0) (by omega) (by decide)).mpr (by omega))
        refine if_c (fun y => ?_) (fun y => ?_)
        · have y := (oN_eq (by omega) (by omega)).mp y
          rw [hsc, if_pos ⟨z, y⟩]
          exact q_154_110 hn (if_y rfl done)
        · have y : b ≠ a := fun x => y (by rw [x])
          rw [hsc, if_neg (fun x => y x.2)]
          refine q_154_107 hn (q_154_110 hn ?_)
          rw [if_pos rfl]
          exact done
theorem lm_words (hn : 59 ≤ nn) (hc : CSt I J W H C w hs t T) (hgw : GoodW w) {g : Nat} (hg : g < 2 * (W + H))
    (h : ∀ I', QF I J I' J → EX (cal (d + 42)) k Q pc L (.int 1 :: r) u (hp (fz + 2) nn (lay Ln) I' J)) :
    CA (cal (d + 42)) 154 [.ref 1, .int (Int32.ofNat g)] (hp (fz + 2) nn (lay Ln) I J) (fun w => KW (d + 42) k Q pc L r u w 154 (hp (fz + 2) nn (lay Ln) I J)) := by
  refine ⟨0, Or.inl rfl, call_in (d := d + 41) (Nat.le_of_ble_eq_true rfl) rfl rfl (q_154_0 hn (aw_out (d := d) hn hgw hg ((rdg W H C g).length + 1) 0 I 0 0 (by omega) hc ?_ fun I' q => kc_v rfl rfl (h I' q)))⟩
  have hwf : WFr (rdg W H C g) := rdW_WF _ _
  by_cases z : 0 < (rdg W H C g).length
  · left
    refine ⟨z, ?_, rfl⟩
    rcases hwf.1 0 z with y | y
    · exact absurd (hwf.2 0 z y).1 (by decide)
    · exact y
  · right
    have z : (rdg W H C g).length = 0 := by omega
    refine ⟨z.symm, ?_, ?_⟩ <;> rw [z] <;> simp [scS]
end AWS
