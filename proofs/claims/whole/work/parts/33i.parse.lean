/-! ===== the reference's parse ===== -/
section PR9
variable {T : Nat → Int32}
def prP (T : Nat → Int32) (i : Nat) : Nat := 7 * (prR T i).1 + (prR T i).2.1
theorem prP_mono {i j : Nat} (hb : ∀ k, k < j → pbad T k = false) (h : i ≤ j) : prP T i ≤ prP T j := by
  induction j with
  | zero => obtain rfl : i = 0 := by omega
            exact Nat.le_refl _
  | succ j ih =>
    by_cases e : i = j + 1
    · subst e; exact Nat.le_refl _
    · have ih := ih (fun k hk => hb k (by omega)) (by omega)
      obtain ⟨-, h2, -, h4, -⟩ := pr_ok (T := T) (i := j) (fun k hk => hb k (by omega))
      unfold prP at ih ⊢
      rw [prR_s]
      split
      · dsimp only; omega
      · dsimp only; omega
theorem prP_step {j : Nat} (h : T j ≠ 124) : prP T (j + 1) = prP T j + 1 := by
  unfold prP
  rw [prR_s, if_neg h]
  dsimp only
  omega
theorem prN_s (i : Nat) : prN T (i + 1) = if T i = 124 then prN T i else prN T i + 1 := rfl
theorem pcl_at {i : Nat} : ∀ j, j < i → T j ≠ 124 → pcl T i (prN T j) = T j := by
  induction i with
  | zero => exact fun j h => absurd h (Nat.not_lt_zero j)
  | succ i ih =>
    intro j hj hT
    rw [pcl_s]
    by_cases e : T i = 124
    · rw [if_pos e]
      exact ih j (by
        by_cases q : j = i
        · subst q; exact absurd e hT
        · omega) hT
    · rw [if_neg e]
      by_cases q : j = i
      · subst q; rw [if_pos rfl]
      · have h1 := prN_mono (T := T) (show j + 1 ≤ i by omega)
        rw [prN_s, if_neg hT] at h1
        rw [if_neg (show ¬ prN T j = prN T i by omega)]
        exact ih j (by omega) hT
theorem prN_surj {i : Nat} : ∀ k, k < prN T i → ∃ j, j < i ∧ T j ≠ 124 ∧ prN T j = k := by
  induction i with
  | zero => exact fun k h => absurd h (Nat.not_lt_zero k)
  | succ i ih =>
    intro k hk
    rw [prN_s] at hk
    by_cases e : T i = 124
    · rw [if_pos e] at hk
      obtain ⟨j, h1, h2, h3⟩ := ih k hk
      exact ⟨j, by omega, h2, h3⟩
    · rw [if_neg e] at hk
      by_cases q : k = prN T i
      · exact ⟨i, by omega, e, q.symm⟩
      · obtain ⟨j, h1, h2, h3⟩ := ih k (by omega)
        exact ⟨j, by omega, h2, h3⟩
/-- where a byte of a text without an error stands -/
theorem pr_place {t j : Nat} (he : perr T t = none) (hj : j < t) (hT : T j ≠ 124) : prN T j = (prR T j).1 * (prR T t).2.2 + (prR T j).2.1 ∧ (prR T j).2.1 < (prR T t).2.2 := by
  obtain ⟨hall, p1, p2, p3, p4, p5, p6⟩ := perr_none he
  have hn := prN_eq (T := T) (i := j) (fun k hk => hall k (by omega))
  by_cases q : (prR T j).1 = 0
  · rw [q] at hn ⊢
    rw [if_pos rfl] at hn
    obtain ⟨f1, f2⟩ := prR_first q
    obtain ⟨g1, g2, g3⟩ := prR_fw (T := T) (i := t) (by omega)
    refine ⟨by rw [hn]; omega, ?_⟩
    rw [f1]
    by_cases z : j < (prR T t).2.2
    · exact z
    · exfalso
      by_cases y : j = (prR T t).2.2
      · rw [y] at hT; exact hT g2
      · exact f2 _ (by omega) g2
  · rw [if_neg q] at hn
    have hm := (prR_mono (T := T) (show j ≤ t by omega)).2 q
    have hb := hall j hj
    unfold pbad at hb
    rw [if_neg hT, Bool.or_eq_false_iff] at hb
    have b1 := decide_eq_false_iff_not.mp hb.1
    have hp := (pr_ok (T := T) (i := j) (fun k hk => hall k (by omega))).2.1
    unfold prW at b1 hp
    rw [if_neg q] at b1 hp
    rw [hm]
    exact ⟨hn, by omega⟩
end PR9
section PA9
variable {d nn Ln : Nat} {fz : Bool} {K : Post} {I : HI} {J : HJ} {W H : Nat} {C : Cel} {w : Wds} {hs : List Sav} {t : Nat} {T : Nat → Int32}
theorem sr_parse (hn : 74 ≤ nn) (hR : RfS I W H C w hs t T) (h1 : ∀ i, perr T t = some i → ∀ I', RF I J I' J → RfS I' W H C w hs t T → K (.inl (some (.int (-10 - Int32.ofNat i)))) (hp fz nn (lay Ln) I' J))
    (h2 : perr T t = none → ∀ I', RF I J I' J → RfS I' (prR T t).2.2 ((prR T t).1 + 1) (pcl T t) w ((((W, H, C), w) :: hs).take 4) t T → K (.inl (some (.int (Int32.ofNat (cntB (fun c => isRB (pcl T t c)) ((prR T t).2.2 * ((prR T t).1 + 1))))))) (hp fz nn (lay Ln) I' J)) :
    cal (d + 5) 195 [.ref 59] (hp fz nn (lay Ln) I J) K := by
  have ht := hR.t60
  have hF : ∀ I2, (∀ a q, ¬ (a = 62 ∨ (a = 59 ∧ q = 4)) → I2 a q = I a q) → RF I J I2 J ∧ RfS I2 W H C w hs t T := by
    intro I2 f
    refine ⟨⟨fun a ha => by funext q; exact f a q (by omega), fun _ _ => rfl⟩, hR.q (J := J) (J' := J) ⟨fun a q hq => f a q (by omega), fun _ _ => rfl⟩⟩
  have bad : ∀ i, i < t → (∀ j, j < i → pbad T j = false) → pbad T i = true → perr T t = some i := by
    intro i hi h3 h4
    unfold perr
    rw [fstI_of hi h4 h3, if_pos hi]
  have m7 : ∀ r c : Nat, (7 : Int32) * Int32.ofNat r + Int32.ofNat c = Int32.ofNat (7 * r + c) := fun r c => by
    rw [show (7 : Int32) * Int32.ofNat r = Int32.ofNat (7 * r) from oN_mul 7 r, oN_add]
  have lp : ∀ m i, i + m = t → ∀ I2, (∀ a q, ¬ (a = 62 ∨ (a = 59 ∧ q = 4)) → I2 a q = I a q) → (∀ j, j < i → pbad T j = false) → (∀ j, j < i → T j ≠ 124 → I2 62 (prP T j) = T j) →
      EX (cal (d + 2 + 2)) 195 K 17 [some (.ref 59), some (.int (Int32.ofNat (prR T i).2.2)), some (.int (Int32.ofNat (prR T i).1)), some (.int (Int32.ofNat (prR T i).2.1)), some (.int (Int32.ofNat i)), some (.int 1), none, none, none] [] (0, 0) (hp fz nn (lay Ln) I2 J) := by
    intro m
    induction m with
    | zero =>
      intro i hi I2 f2 hall c2
      obtain rfl : i = t := hi
      obtain ⟨p1, p2, p3, p4, p5, p6⟩ := pr_ok hall
      obtain ⟨hf2, r2⟩ := hF I2 f2
      have err : pend T i = false → K (.inl (some (.int (-10 - Int32.ofNat i)))) (hp fz nn (lay Ln) I2 J) := fun q => h1 i (by
        unfold perr
        rw [fstI_none hall, if_neg (Nat.lt_irrefl i), q, if_neg Bool.false_ne_true]) I2 hf2 r2
      refine r_195_17 (d := d + 2) hn (if_n (by decide) (if_y (by rw [r2.tn]; exact Int32.le_refl _) (if_c (fun e => err ?_) (fun e => if_c (fun e2 => ?_) (fun e2 => err ?_)))))
      · have := (oN_eq (b := 0) (by omega) (by decide)).mp e
        unfold pend
        rw [this]; rfl
      · have hr : (prR T i).1 ≠ 0 := fun z => e (by rw [z]; rfl)
        have hW : prW T i = (prR T i).2.2 := by unfold prW; rw [if_neg hr]
        have hle := (oN_le (by omega) (by omega)).mp e2
        have hpe : pend T i = true := by
          unfold pend
          rw [decide_eq_true (show 1 ≤ (prR T i).1 by omega), decide_eq_true (show (prR T i).2.1 = prW T i by omega)]; rfl
        have he : perr T i = none := by
          unfold perr
          rw [fstI_none hall, if_neg (Nat.lt_irrefl i), hpe, if_pos rfl]
        replace h2 := h2 he
        obtain ⟨-, b1, b2', b3, b4, b5, b6⟩ := perr_none he
        have h49 : (prR T i).2.2 * ((prR T i).1 + 1) ≤ 49 := n49 b5 (by omega)
        refine sp_saves (d := d + 3) hn r2 (fun I3 f3 r3 => kc_0 rfl rfl (r_195_214 (d := d + 2) hn ?_))
        rw [oN_succ]
        refine sp_empties (d := d + 3) hn (fun I4 f4 a4 b4' c4 => kc_0 rfl rfl (r_195_222 (d := d + 2) hn ?_))
        have lp3 : ∀ m k, k + m = (prR T i).2.2 * ((prR T i).1 + 1) → ∀ I5, (∀ a q, ¬ (a = 60 ∧ 2 ≤ q ∧ q < 51) → I5 a q = I4 a q) → (∀ c, c < k → I5 60 (2 + c) = pcl T i c) → EX (cal (d + 2 + 2)) 195 K 225 [some (.ref 59), some (.int (Int32.ofNat (prR T i).2.2)), none, none, none, none, some (.int (Int32.ofNat k)), none, none] [] (0, 0) (hp fz nn (lay Ln) I5 J) := by
          intro m
          induction m with
          | zero =>
            intro k hk I5 f5 c5
            obtain rfl : k = (prR T i).2.2 * ((prR T i).1 + 1) := hk
            have r5 : RfS I5 (prR T i).2.2 ((prR T i).1 + 1) (pcl T i) w ((((W, H, C), w) :: hs).take 4) i T := r3.stone (fun a q hq => by rw [f5 a q (by omega)]; exact f4 a q (by omega)) (by rw [f5 60 0 (by omega)]; exact a4) (by rw [f5 60 1 (by omega)]; exact b4') ⟨b4, b5⟩ ⟨by omega, by omega⟩ c5
            refine r_195_225 (d := d + 2) hn (if_y (by rw [r5.now.wh]; exact Int32.le_refl _) (sp_cellsWith (d := d) (k := 2) hn r5.now (by decide) (by decide) (kc_v rfl rfl (r_195_271 (d := d + 2) hn (h2 I5 ⟨fun a ha => ?_, fun _ _ => rfl⟩ r5)))))
            funext q
            rw [f5 a q (by omega), f4 a q (by omega), f3 a q (by omega), f2 a q (by omega)]
          | succ m ih =>
            intro k hk I5 f5 c5
            have e60 : I5 60 0 * I5 60 1 = Int32.ofNat ((prR T i).2.2 * ((prR T i).1 + 1)) := by rw [f5 60 0 (by omega), f5 60 1 (by omega), a4, b4', oN_mul]
            have q1 : k / (prR T i).2.2 < (prR T i).1 + 1 := Nat.div_lt_of_lt_mul (by omega)
            have q2 : k % (prR T i).2.2 < (prR T i).2.2 := Nat.mod_lt _ (by omega)
            have e2' : (2 : Int32) + Int32.ofNat k = Int32.ofNat (2 + k) := oN_add 2 k
            have e3 : Int32.ofNat k / Int32.ofNat (prR T i).2.2 * 7 + (Int32.ofNat k - Int32.ofNat k / Int32.ofNat (prR T i).2.2 * Int32.ofNat (prR T i).2.2) = Int32.ofNat (7 * (k / (prR T i).2.2) + k % (prR T i).2.2) := by
              rw [oN_mod (by omega) (by omega), oN_div (by omega) (by omega), show Int32.ofNat (k / (prR T i).2.2) * 7 = Int32.ofNat (k / (prR T i).2.2 * 7) from oN_mul _ 7, oN_add, Nat.mul_comm]
            refine r_195_225 (d := d + 2) hn (if_n (by rw [e60]; exact le_n (by omega) (by omega)) ⟨oN_ne0 (by omega) (by omega), oN_ne0 (by omega) (by omega), ?_⟩)
            have hval : I5 62 (7 * (k / (prR T i).2.2) + k % (prR T i).2.2) = pcl T i k := by
              obtain ⟨j, g1, g2, g3⟩ := prN_surj (T := T) (i := i) k (by rw [b3]; omega)
              obtain ⟨g4, g5⟩ := pr_place he g1 g2
              have hk2 : k = (prR T j).1 * (prR T i).2.2 + (prR T j).2.1 := by rw [← g3]; exact g4
              have d1 : k / (prR T i).2.2 = (prR T j).1 := by
                rw [hk2, Nat.add_comm, Nat.add_mul_div_right _ _ (by omega), Nat.div_eq_of_lt g5, Nat.zero_add]
              have d2 : k % (prR T i).2.2 = (prR T j).2.1 := by
                rw [hk2, Nat.add_comm, Nat.add_mul_mod_self_right, Nat.mod_eq_of_lt g5]
              rw [d1, d2, ← g3, pcl_at j g1 g2, f5 62 _ (by omega), f4 62 _ (by omega), f3 62 _ (by omega)]
              exact c2 j g1 g2
            generalize k / (prR T i).2.2 = kd at *
            generalize k % (prR T i).2.2 = km at *
            rw [e2', e3, oN_clamp (by omega), oN_clamp (by omega), oN_succ, hval]
            refine ⟨oN_vin (by omega) (by decide), oN_vin (by omega) (by decide), ih (k + 1) (by omega) _ (fun a q hq => ?_) (fun c hc => ?_)⟩
            · rw [w2_at, if_neg (by omega)]; exact f5 a q hq
            · rw [w2_at]
              by_cases y : c = k
              · subst y; rw [if_pos ⟨rfl, rfl⟩]
              · rw [if_neg (by omega)]; exact c5 c (by omega)
        exact lp3 _ 0 (Nat.zero_add _) I4 (fun _ _ _ => rfl) (fun c h => absurd h (Nat.not_lt_zero c))
      · have hr : (prR T i).1 ≠ 0 := fun z => e (by rw [z]; rfl)
        have hW : prW T i = (prR T i).2.2 := by unfold prW; rw [if_neg hr]
        have hle : ¬ (prR T i).2.2 ≤ (prR T i).2.1 := fun z => e2 (le_y z (by omega))
        unfold pend
        rw [decide_eq_false (show ¬ (prR T i).2.1 = prW T i by omega), Bool.and_false]
    | succ m ih =>
      intro i hi I2 f2 hall c2
      obtain ⟨p1, p2, p3, p4, p5, p6⟩ := pr_ok hall
      obtain ⟨hf2, r2⟩ := hF I2 f2
      generalize hv : T i = v at *
      -- a byte that cannot stand
      have stop : pbad T i = true → ∀ x6 x7 x8, EX (cal (d + 2 + 2)) 195 K 121 [some (.ref 59), some (.int (Int32.ofNat (prR T i).2.2)), some (.int (Int32.ofNat (prR T i).1)), some (.int (Int32.ofNat (prR T i).2.1)), some (.int (Int32.ofNat i)), some (.int 0), some (.int x6), some (.int x7), some (.int x8)] [] (0, 0) (hp fz nn (lay Ln) I2 J) := by
        intro hb x6 x7 x8
        refine r_195_121 (d := d + 2) hn (if_y rfl (r_195_172 (d := d + 2) hn (if_y rfl ?_)))
        rw [Int32.add_zero]
        exact r_195_17 (d := d + 2) hn (if_y rfl (h1 i (bad i (by omega) hall hb) I2 hf2 r2))
      -- a byte that can
      have go : pbad T i = false → ∀ x7 x8, EX (cal (d + 2 + 2)) 195 K 121 [some (.ref 59), some (.int (Int32.ofNat (prR T i).2.2)), some (.int (Int32.ofNat (prR T i).1)), some (.int (Int32.ofNat (prR T i).2.1)), some (.int (Int32.ofNat i)), some (.int 1), some (.int v), some (.int x7), some (.int x8)] [] (0, 0) (hp fz nn (lay Ln) I2 J) := by
        intro hb x7 x8
        have hall' : ∀ j, j < i + 1 → pbad T j = false := fun j hj => by
          by_cases y : j = i
          · subst y; exact hb
          · exact hall j (by omega)
        refine r_195_121 (d := d + 2) hn (if_n (by decide) (if_c (fun e => ?_) (fun e => ?_)))
        · have es : prR T (i + 1) = ((prR T i).1 + 1, 0, if (prR T i).1 = 0 then (prR T i).2.1 else (prR T i).2.2) := by rw [prR_s, hv, if_pos e]
          have nx := ih (i + 1) (by omega) I2 f2 hall' (fun j hj hT => by
            by_cases y : j = i
            · subst y; rw [hv] at hT; exact absurd e hT
            · exact c2 j (by omega) hT)
          rw [es] at nx
          refine if_c (fun e2 => r_195_172 (d := d + 2) hn (if_n (by decide) ?_)) (fun e2 => r_195_172 (d := d + 2) hn (if_n (by decide) ?_))
          · have e3 := (oN_eq (b := 0) (by omega) (by decide)).mp e2
            rw [if_pos e3] at nx
            rw [oN_succ, oN_succ]
            exact nx
          · have e3 : ¬ (prR T i).1 = 0 := fun z => e2 (by rw [z]; rfl)
            rw [if_neg e3] at nx
            rw [oN_succ, oN_succ]
            exact nx
        · have es : prR T (i + 1) = ((prR T i).1, (prR T i).2.1 + 1, (prR T i).2.2) := by rw [prR_s, hv, if_neg e]
          rw [m7, oN_clamp (by omega)]
          refine ⟨oN_vin (by omega) (by decide), r_195_172 (d := d + 2) hn (if_n (by decide) ?_)⟩
          have nx := ih (i + 1) (by omega) (w2 I2 62 (7 * (prR T i).1 + (prR T i).2.1) v) (fun a q hq => by rw [w2_at, if_neg (by omega)]; exact f2 a q hq) hall' (fun j hj hT => by
            rw [w2_at]
            by_cases y : j = i
            · subst y; rw [if_pos ⟨rfl, rfl⟩, hv]
            · have hm := prP_mono (T := T) (i := j + 1) (j := i) hall (by omega)
              rw [prP_step hT] at hm
              have hP : prP T i = 7 * (prR T i).1 + (prR T i).2.1 := rfl
              rw [if_neg (by omega)]
              exact c2 j (by omega) hT)
          rw [es] at nx
          rw [oN_succ, oN_succ]
          exact nx
      have key : ∀ x8 : Int32, (v = 124 → x8 = b2 (!decide ((prR T i).2.1 < prL T i))) → EX (cal (d + 2 + 2)) 195 K 74 [some (.ref 59), some (.int (Int32.ofNat (prR T i).2.2)), some (.int (Int32.ofNat (prR T i).1)), some (.int (Int32.ofNat (prR T i).2.1)), some (.int (Int32.ofNat i)), some (.int 1), some (.int v), some (.int (Int32.ofNat (prW T i))), some (.int x8)] [] (0, 0) (hp fz nn (lay Ln) I2 J) := by
        intro x8 hx8
        have eb : pbad T i = if v = 124 then decide ((prR T i).2.1 < prL T i) || decide ((prR T i).1 = 6) else decide ((prR T i).2.1 = prW T i) || !isOB v := by unfold pbad; rw [hv]
        refine r_195_74 (d := d + 2) hn ?_
        rw [f9_byte]
        refine b2c (fun eo => if_c (fun e => ?_) (fun e => stop ?_ _ _ _)) (fun eo => ?_)
        · rw [if_pos e] at eb
          rw [hx8 e]
          refine b2c (fun e2 => stop ?_ _ _ _) (fun e2 => if_c (fun e3 => stop ?_ _ _ _) (fun e3 => go ?_ _ _))
          · have : decide ((prR T i).2.1 < prL T i) = true := by simpa using e2
            rw [eb, this, Bool.true_or]
          · have := (oN_le (a := 6) (by decide) (by omega)).mp e3
            rw [eb, decide_eq_true (show (prR T i).1 = 6 by omega), Bool.or_true]
          · have h6 : ¬ 6 ≤ (prR T i).1 := fun z => e3 (le_y (a := 6) z (by omega))
            have : decide ((prR T i).2.1 < prL T i) = false := by simpa using e2
            rw [eb, this, decide_eq_false (show ¬ (prR T i).1 = 6 by omega)]; rfl
        · rw [eb, if_neg e, eo]; simp
        · have e : ¬ v = 124 := fun z => by rw [z] at eo; exact absurd eo (by decide)
          rw [if_neg e, eo, show (!true) = false from rfl, Bool.or_false] at eb
          refine if_c (fun e3 => stop ?_ _ _ _) (fun e3 => go ?_ _ _)
          · have := (oN_le (by omega) (by omega)).mp e3
            rw [eb, decide_eq_true (show (prR T i).2.1 = prW T i by omega)]
          · have : ¬ prW T i ≤ (prR T i).2.1 := fun z => e3 (le_y z (by omega))
            rw [eb, decide_eq_false (show ¬ (prR T i).2.1 = prW T i by omega)]
      have mid : EX (cal (d + 2 + 2)) 195 K 52 [some (.ref 59), some (.int (Int32.ofNat (prR T i).2.2)), some (.int (Int32.ofNat (prR T i).1)), some (.int (Int32.ofNat (prR T i).2.1)), some (.int (Int32.ofNat i)), some (.int 1), some (.int v), some (.int (Int32.ofNat (prW T i))), none] [] (0, 0) (hp fz nn (lay Ln) I2 J) := by
        refine r_195_52 (d := d + 2) hn (if_c (fun e => key 1 (fun _ => ?_)) (fun e => if_c (fun e2 => if_c (fun e3 => key 0 (fun _ => ?_)) (fun e3 => key 1 (fun _ => ?_))) (fun e2 => key 0 (fun _ => ?_))))
        · have e := (oN_eq (by omega) (by omega)).mp e
          have : ¬ (prR T i).2.1 < prL T i := by
            unfold prL
            unfold prW at e p3
            split
            · rename_i q; rw [if_pos q] at e; omega
            · rename_i q; rw [if_neg q] at e; omega
          rw [decide_eq_false this]; rfl
        · have e2 := (oN_eq (b := 0) (by omega) (by decide)).mp e2
          have e3 := (oN_lt (b := 2) (by omega) (by decide)).mp e3
          have : (prR T i).2.1 < prL T i := by unfold prL; rw [if_pos e2]; exact e3
          rw [decide_eq_true this]; rfl
        · have e2 := (oN_eq (b := 0) (by omega) (by decide)).mp e2
          have e3 : ¬ (prR T i).2.1 < 2 := fun z => e3 (lt_y (b := 2) z (by decide))
          have : ¬ (prR T i).2.1 < prL T i := by unfold prL; rw [if_pos e2]; exact e3
          rw [decide_eq_false this]; rfl
        · have e2 : ¬ (prR T i).1 = 0 := fun z => e2 (by rw [z]; rfl)
          have e : ¬ (prR T i).2.1 = prW T i := fun z => e (by rw [z])
          have : (prR T i).2.1 < prL T i := by
            unfold prL
            unfold prW at e p2
            rw [if_neg e2] at e p2 ⊢
            omega
          rw [decide_eq_true this]; rfl
      refine r_195_17 (d := d + 2) hn (if_n (by decide) (if_n (by rw [r2.tn]; exact le_n (by omega) (by omega)) ⟨oN_vin (by omega) (by decide), ?_⟩))
      rw [oN_clamp (by omega), r2.ta i (by omega), hv]
      unfold prW at mid
      refine if_c (fun e => ?_) (fun e => ?_)
      · have e := (oN_eq (b := 0) (by omega) (by decide)).mp e
        rw [if_pos e] at mid; exact mid
      · have e : ¬ (prR T i).1 = 0 := fun z => e (by rw [z]; rfl)
        rw [if_neg e] at mid; exact mid
  refine call_in (Nat.le_of_ble_eq_true rfl) rfl rfl (r_195_0 (d := d + 2) hn ?_)
  exact lp t 0 (Nat.zero_add _) _ (fun a q hq => by rw [w2_at, if_neg (by omega)]) (fun j h => absurd h (Nat.not_lt_zero j)) (fun j h => absurd h (Nat.not_lt_zero j))
end PA9
