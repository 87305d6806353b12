/-! ===== the text as a stone: rows, columns, the first byte that cannot stand ===== -/
/-- rows ended, cells in this row, the length of the first row -/
def prR (T : Nat → Int32) : Nat → Nat × Nat × Nat
  | 0 => (0, 0, 0)
  | i + 1 => if T i = 124 then ((prR T i).1 + 1, 0, if (prR T i).1 = 0 then (prR T i).2.1 else (prR T i).2.2) else ((prR T i).1, (prR T i).2.1 + 1, (prR T i).2.2)
def prW (T : Nat → Int32) (i : Nat) : Nat := if (prR T i).1 = 0 then 7 else (prR T i).2.2
def prL (T : Nat → Int32) (i : Nat) : Nat := if (prR T i).1 = 0 then 2 else (prR T i).2.2
def pbad (T : Nat → Int32) (i : Nat) : Bool := if T i = 124 then decide ((prR T i).2.1 < prL T i) || decide ((prR T i).1 = 6) else decide ((prR T i).2.1 = prW T i) || !isOB (T i)
def pend (T : Nat → Int32) (t : Nat) : Bool := decide (1 ≤ (prR T t).1) && decide ((prR T t).2.1 = prW T t)
/-- the syntax error position, none without one -/
def perr (T : Nat → Int32) (t : Nat) : Option Nat := if fstI (pbad T) t < t then some (fstI (pbad T) t) else if pend T t then none else some t
def perI (T : Nat → Int32) (t : Nat) : Int32 := match perr T t with
  | some i => Int32.ofNat i
  | none => -1
theorem prR_s (T : Nat → Int32) (i : Nat) : prR T (i + 1) = if T i = 124 then ((prR T i).1 + 1, 0, if (prR T i).1 = 0 then (prR T i).2.1 else (prR T i).2.2) else ((prR T i).1, (prR T i).2.1 + 1, (prR T i).2.2) := rfl
theorem pr_ok {T : Nat → Int32} {i : Nat} (h : ∀ j, j < i → pbad T j = false) : (prR T i).1 ≤ 6 ∧ (prR T i).2.1 ≤ prW T i ∧ 2 ≤ prW T i ∧ prW T i ≤ 7 ∧ (prR T i).2.1 ≤ i ∧ (prR T i).1 ≤ i := by
  induction i with
  | zero => exact ⟨Nat.zero_le _, Nat.zero_le _, (by show 2 ≤ 7; decide), (by show 7 ≤ 7; decide), Nat.zero_le _, Nat.zero_le _⟩
  | succ i ih =>
    obtain ⟨h1, h2, h3, h4, h5, h6⟩ := ih (fun j hj => h j (by omega))
    have hb := h i (by omega)
    unfold pbad at hb
    unfold prW prR
    by_cases e : T i = 124
    · rw [if_pos e] at hb ⊢
      rw [Bool.or_eq_false_iff] at hb
      have b1 := decide_eq_false_iff_not.mp hb.1
      have b2 := decide_eq_false_iff_not.mp hb.2
      unfold prL at b1
      unfold prW at h2 h3 h4
      dsimp only
      rw [if_neg (Nat.succ_ne_zero _)]
      by_cases q : (prR T i).1 = 0
      · rw [if_pos q] at *; omega
      · rw [if_neg q] at *; omega
    · rw [if_neg e] at hb ⊢
      rw [Bool.or_eq_false_iff] at hb
      have b1 := decide_eq_false_iff_not.mp hb.1
      unfold prW at b1 h2 h3 h4
      dsimp only
      by_cases q : (prR T i).1 = 0
      · rw [if_pos q] at *; omega
      · rw [if_neg q] at *; omega
/-- cells before a byte -/
def prN (T : Nat → Int32) : Nat → Nat
  | 0 => 0
  | i + 1 => if T i = 124 then prN T i else prN T i + 1
def pcl (T : Nat → Int32) : Nat → Cel
  | 0 => fun _ => 46
  | i + 1 => if T i = 124 then pcl T i else fun c => if c = prN T i then T i else pcl T i c
theorem pcl_s (T : Nat → Int32) (i c : Nat) : pcl T (i + 1) c = if T i = 124 then pcl T i c else if c = prN T i then T i else pcl T i c := by
  show (if T i = 124 then pcl T i else fun c => if c = prN T i then T i else pcl T i c) c = _
  by_cases e : T i = 124
  · rw [if_pos e, if_pos e]
  · rw [if_neg e, if_neg e]
theorem prN_eq {T : Nat → Int32} {i : Nat} (h : ∀ j, j < i → pbad T j = false) : prN T i = (prR T i).1 * (if (prR T i).1 = 0 then 0 else (prR T i).2.2) + (prR T i).2.1 := by
  induction i with
  | zero => rfl
  | succ i ih =>
    have ih := ih (fun j hj => h j (by omega))
    have hp := pr_ok (T := T) (i := i) (fun j hj => h j (by omega))
    have hb := h i (by omega)
    unfold pbad at hb
    unfold prN prR
    by_cases e : T i = 124
    · rw [if_pos e] at hb ⊢
      rw [if_pos e]
      rw [Bool.or_eq_false_iff] at hb
      have b1 := decide_eq_false_iff_not.mp hb.1
      unfold prL at b1
      unfold prW at hp
      rw [ih]
      dsimp only
      rw [if_neg (Nat.succ_ne_zero _)]
      by_cases q : (prR T i).1 = 0
      · rw [if_pos q, if_pos q, q]; simp
      · rw [if_neg q, if_neg q]
        rw [if_neg q] at b1 hp
        have : (prR T i).2.1 = (prR T i).2.2 := by omega
        rw [this, Nat.add_mul]; simp
    · rw [if_neg e]
      rw [if_neg e, ih]
      dsimp only
      omega
theorem prN_mono {T : Nat → Int32} {i j : Nat} (h : i ≤ j) : prN T i ≤ prN T j := by
  induction j with
  | zero => obtain rfl : i = 0 := by omega
            exact Nat.le_refl _
  | succ j ih =>
    by_cases e : i = j + 1
    · subst e; exact Nat.le_refl _
    · have := ih (by omega)
      rw [show prN T (j + 1) = if T j = 124 then prN T j else prN T j + 1 from rfl]
      split <;> omega
/-- the end of a text without an error -/
theorem perr_none {T : Nat → Int32} {t : Nat} (h : perr T t = none) : (∀ j, j < t → pbad T j = false) ∧ 1 ≤ (prR T t).1 ∧ (prR T t).2.1 = (prR T t).2.2 ∧ prN T t = (prR T t).2.2 * ((prR T t).1 + 1) ∧ 2 ≤ (prR T t).2.2 ∧ (prR T t).2.2 ≤ 7 ∧ (prR T t).1 ≤ 6 := by
  unfold perr at h
  split at h
  · cases h
  · rename_i h1
    split at h
    · rename_i h2
      have hle := fstI_le (pbad T) t
      have hall : ∀ j, j < t → pbad T j = false := fun j hj => fstI_lo (n := t) (by omega)
      unfold pend at h2
      rw [Bool.and_eq_true] at h2
      have a1 := decide_eq_true_iff.mp h2.1
      have a2 := decide_eq_true_iff.mp h2.2
      have hp := pr_ok hall
      have hn := prN_eq hall
      have q : ¬ (prR T t).1 = 0 := by omega
      unfold prW at a2 hp
      rw [if_neg q] at a2 hp hn
      refine ⟨hall, a1, a2, ?_, by omega, by omega, hp.1⟩
      rw [hn, a2, Nat.mul_add, Nat.mul_comm]
      omega
    · cases h
/-- the rows that follow each other keep the width -/
theorem prR_mono {T : Nat → Int32} {i j : Nat} (h : i ≤ j) : (prR T i).1 ≤ (prR T j).1 ∧ ((prR T i).1 ≠ 0 → (prR T j).2.2 = (prR T i).2.2) := by
  induction j with
  | zero => obtain rfl : i = 0 := by omega
            exact ⟨Nat.le_refl _, fun _ => rfl⟩
  | succ j ih =>
    by_cases e : i = j + 1
    · subst e; exact ⟨Nat.le_refl _, fun _ => rfl⟩
    · obtain ⟨h1, h2⟩ := ih (by omega)
      rw [prR_s]
      by_cases q : T j = 124
      · rw [if_pos q]
        refine ⟨by dsimp only; omega, fun hz => ?_⟩
        dsimp only
        rw [if_neg (show ¬ (prR T j).1 = 0 by omega)]
        exact h2 hz
      · rw [if_neg q]
        exact ⟨h1, h2⟩
/-- the first row: its cells stand at the beginning -/
theorem prR_first {T : Nat → Int32} {i : Nat} (h : (prR T i).1 = 0) : (prR T i).2.1 = i ∧ ∀ j, j < i → T j ≠ 124 := by
  induction i with
  | zero => exact ⟨rfl, fun j h => absurd h (by omega)⟩
  | succ i ih =>
    unfold prR at h ⊢
    by_cases q : T i = 124
    · rw [if_pos q] at h; cases h
    · rw [if_neg q] at h ⊢
      obtain ⟨h1, h2⟩ := ih h
      refine ⟨by dsimp only; omega, fun j hj => ?_⟩
      by_cases e : j = i
      · subst e; exact q
      · exact h2 j (by omega)
theorem prR_fw {T : Nat → Int32} {i : Nat} (h : (prR T i).1 ≠ 0) : (prR T i).2.2 < i ∧ T (prR T i).2.2 = 124 ∧ ∀ j, j < (prR T i).2.2 → T j ≠ 124 := by
  induction i with
  | zero => exact absurd rfl h
  | succ i ih =>
    unfold prR at h ⊢
    by_cases q : T i = 124
    · rw [if_pos q] at h ⊢
      dsimp only
      by_cases e : (prR T i).1 = 0
      · obtain ⟨h1, h2⟩ := prR_first e
        rw [if_pos e, h1]
        exact ⟨by omega, q, h2⟩
      · rw [if_neg e]
        obtain ⟨h1, h2⟩ := ih e
        exact ⟨by omega, h2⟩
    · rw [if_neg q] at h ⊢
      obtain ⟨h1, h2⟩ := ih h
      exact ⟨by dsimp only; omega, h2⟩
section TXC
variable {d nn Ln : Nat} {fz : Bool} {K : Post} {I : HI} {J : HJ} {t : Nat} {T : Nat → Int32}
theorem sp_error (hn : 59 ≤ nn) (hT : TXT I t T) (hK : K (.inl (some (.int (perI T t)))) (hp fz nn (lay Ln) I J)) : cal (d + 5) 66 [.ref 57] (hp fz nn (lay Ln) I J) K := by
  have ht := hT.le
  have bad : ∀ i, i < t → (∀ j, j < i → pbad T j = false) → pbad T i = true → K (.inl (some (.int (Int32.ofNat i)))) (hp fz nn (lay Ln) I J) := by
    intro i hi h1 h2
    have e := fstI_of hi h2 h1
    unfold perI perr at hK
    rw [e, if_pos hi] at hK
    exact hK
  have lp : ∀ m i : Nat, i + m = t → (∀ j, j < i → pbad T j = false) → EX (cal (d + 4)) 66 K 13 [some (.ref 57), some (.int (Int32.ofNat (prL T i))), some (.int (Int32.ofNat (prW T i))), some (.int (Int32.ofNat ((prR T i).1 + 1))), some (.int (Int32.ofNat (prR T i).2.1)), some (.int (Int32.ofNat i)), none] [] (0, 0) (hp fz nn (lay Ln) I J) := by
    intro m
    induction m with
    | zero =>
      intro i hi h
      obtain rfl : i = t := hi
      obtain ⟨h1, h2, h3, h4, h5, h6⟩ := pr_ok h
      have e := fstI_none h
      unfold perI perr at hK
      rw [e, if_neg (Nat.lt_irrefl _)] at hK
      have bd : pend T i = false → K (.inl (some (.int (I 57 1)))) (hp fz nn (lay Ln) I J) := fun q => by
        rw [q] at hK
        rw [hT.n]
        exact hK
      refine r_66_13 hn (if_y (by rw [hT.n]; exact Int32.le_refl _) (if_c (fun q => bd ?_) (fun q => if_c (fun q2 => ?_) (fun q2 => bd ?_))))
      · have := (oN_lt (b := 2) (by omega) (by decide)).mp q
        unfold pend
        rw [decide_eq_false (by omega), Bool.false_and]
      · have q : ¬ (prR T i).1 + 1 < 2 := fun z => q ((oN_lt (b := 2) (by omega) (by decide)).mpr z)
        have q2 := (oN_eq (by omega) (by omega)).mp q2
        have : pend T i = true := by
          unfold pend
          rw [decide_eq_true (by omega), decide_eq_true q2]; rfl
        rw [this] at hK
        exact hK
      · have q2 := fun z => q2 ((oN_eq (by omega) (by omega)).mpr z)
        unfold pend
        rw [decide_eq_false q2, Bool.and_false]
    | succ m ih =>
      intro i hi h
      obtain ⟨h1, h2, h3, h4, h5, h6⟩ := pr_ok h
      have h7 : prL T i ≤ 7 := by
        unfold prL
        unfold prW at h4
        split
        · omega
        · rename_i q; rw [if_neg q] at h4; exact h4
      have next : pbad T i = false → EX (cal (d + 4)) 66 K 13 [some (.ref 57), some (.int (Int32.ofNat (prL T (i + 1)))), some (.int (Int32.ofNat (prW T (i + 1)))), some (.int (Int32.ofNat ((prR T (i + 1)).1 + 1))), some (.int (Int32.ofNat (prR T (i + 1)).2.1)), some (.int (Int32.ofNat (i + 1))), none] [] (0, 0) (hp fz nn (lay Ln) I J) := fun q => ih (i + 1) (by omega) (fun j hj => by
        by_cases e : j = i
        · subst e; exact q
        · exact h j (by omega))
      refine r_66_13 hn (if_n (by rw [hT.n]; exact le_n (by omega) (by omega)) ?_)
      rw [atI_oN (by omega) (by decide), hT.at_ i (by omega)]
      refine if_c (fun e => ?_) (fun e => ?_)
      · refine if_c (fun q => bad i (by omega) h ?_) (fun q => if_c (fun q2 => bad i (by omega) h ?_) (fun q2 => ?_))
        · unfold pbad
          rw [if_pos e, decide_eq_true ((oN_lt (by omega) (by omega)).mp q), Bool.true_or]
        · have := (oN_eq (b := 7) (by omega) (by decide)).mp q2
          unfold pbad
          rw [if_pos e, decide_eq_true (show (prR T i).1 = 6 by omega), Bool.or_true]
        · have q : ¬ (prR T i).2.1 < prL T i := fun z => q ((oN_lt (by omega) (by omega)).mpr z)
          have q2 : ¬ (prR T i).1 + 1 = 7 := fun z => q2 ((oN_eq (b := 7) (by omega) (by decide)).mpr z)
          have hb : pbad T i = false := by
            unfold pbad
            rw [if_pos e, decide_eq_false q, decide_eq_false (by omega)]; rfl
          have hx := next hb
          have ec : (if (prR T i).1 = 0 then (prR T i).2.1 else (prR T i).2.2) = (prR T i).2.1 := by
            split
            · rfl
            · rename_i z
              unfold prL at q
              unfold prW at h2
              rw [if_neg z] at q h2
              omega
          have e1 : prR T (i + 1) = ((prR T i).1 + 1, 0, (prR T i).2.1) := by
            show (if T i = 124 then _ else _) = _
            rw [if_pos e, ec]
          have e2 : prL T (i + 1) = (prR T i).2.1 := by unfold prL; rw [e1, if_neg (Nat.succ_ne_zero _)]
          have e3 : prW T (i + 1) = (prR T i).2.1 := by unfold prW; rw [e1, if_neg (Nat.succ_ne_zero _)]
          rw [e2, e3, e1] at hx
          rw [oN_succ, oN_succ]
          exact hx
      · have e1 : prR T (i + 1) = ((prR T i).1, (prR T i).2.1 + 1, (prR T i).2.2) := by
          show (if T i = 124 then _ else _) = _
          rw [if_neg e]
        have e2 : prL T (i + 1) = prL T i := by unfold prL; rw [e1]
        have e3 : prW T (i + 1) = prW T i := by unfold prW; rw [e1]
        rw [f_cellByte]
        refine if_c (fun q => bad i (by omega) h ?_) (fun q => if_c (fun q2 => bad i (by omega) h ?_) (fun q2 => ?_))
        · unfold pbad
          rw [if_neg e, decide_eq_true ((oN_eq (by omega) (by omega)).mp q), Bool.true_or]
        · unfold pbad
          rw [if_neg e, (b2_0 _).mp q2]
          simp
        · have q := fun z => q ((oN_eq (by omega) (by omega)).mpr z)
          have ho : isOB (T i) = true := by
            cases z : isOB (T i) with
            | true => rfl
            | false => rw [z] at q2; exact absurd rfl q2
          have hb : pbad T i = false := by
            unfold pbad
            rw [if_neg e, decide_eq_false q, ho]; rfl
          have hx := next hb
          rw [e2, e3, e1] at hx
          rw [oN_succ, oN_succ]
          exact hx
  exact call_in (Nat.le_of_ble_eq_true rfl) rfl rfl (r_66_0 hn (lp t 0 (by omega) (fun j h => absurd h (by omega))))
theorem sp_rowLen (hn : 59 ≤ nn) (hT : TXT I t T) (h0 : (prR T t).1 ≠ 0) (hK : K (.inl (some (.int (Int32.ofNat (prR T t).2.2)))) (hp fz nn (lay Ln) I J)) : cal (d + 2) 68 [.ref 57] (hp fz nn (lay Ln) I J) K := by
  have ht := hT.le
  obtain ⟨f1, f2, f3⟩ := prR_fw h0
  have lp : ∀ m i : Nat, i + m = (prR T t).2.2 → EX (cal (d + 1)) 68 K 2 [some (.ref 57), some (.int (Int32.ofNat i))] [] (0, 0) (hp fz nn (lay Ln) I J) := by
    intro m
    induction m with
    | zero =>
      intro i hi
      obtain rfl : i = (prR T t).2.2 := hi
      refine r_68_2 hn (if_n (by rw [hT.n]; exact le_n f1 (by omega)) (if_y ?_ hK))
      rw [atI_oN (by omega) (by decide), hT.at_ _ f1, f2]
    | succ m ih =>
      intro i hi
      refine r_68_2 hn (if_n (by rw [hT.n]; exact le_n (by omega) (by omega)) (if_n ?_ ?_))
      · rw [atI_oN (by omega) (by decide), hT.at_ _ (by omega)]
        exact f3 i (by omega)
      · rw [oN_succ]
        exact ih (i + 1) (by omega)
  exact call_in (Nat.le_of_ble_eq_true rfl) rfl rfl (r_68_0 hn (lp (prR T t).2.2 0 (Nat.zero_add _)))
theorem sp_carve (hn : 59 ≤ nn) (hT : TXT I t T) (he : perr T t = none) (hK : ∀ I', (∀ a, ¬ (2 ≤ a ∧ a ≤ 3) → I' a = I a) → StC I' (prR T t).2.2 ((prR T t).1 + 1) (pcl T t) → K (.inl none) (hp fz nn (lay Ln) I' J)) : cal (d + 3) 67 [.ref 57, .ref 2] (hp fz nn (lay Ln) I J) K := by
  have ht := hT.le
  obtain ⟨hall, p1, p2, p3, p4, p5, p6⟩ := perr_none he
  have h49 : (prR T t).2.2 * ((prR T t).1 + 1) ≤ 49 := n49 p5 (by omega)
  have lp2 : ∀ m i : Nat, i + m = t → ∀ I', (∀ a, ¬ (2 ≤ a ∧ a ≤ 3) → I' a = I a) → I' 2 0 = Int32.ofNat (prR T t).2.2 → I' 2 1 = Int32.ofNat ((prR T t).1 + 1) → (∀ c, c < 49 → I' 3 c = pcl T i c) →
      EX (cal (d + 2)) 67 K 53 [some (.ref 57), some (.ref 2), none, some (.int (Int32.ofNat (prN T i))), some (.int (Int32.ofNat i))] [] (0, 0) (hp fz nn (lay Ln) I' J) := by
    intro m
    induction m with
    | zero =>
      intro i hi I' hf g1 g2 hc
      obtain rfl : i = t := hi
      refine r_67_53 hn (if_y (by rw [hf 57 (by omega), hT.n]; exact Int32.le_refl _) (hK I' hf ⟨⟨g1, g2, ⟨p4, p5⟩, by omega, by omega⟩, fun c hc' => hc c (by omega)⟩))
    | succ m ih =>
      intro i hi I' hf g1 g2 hc
      refine r_67_53 hn (if_n (by rw [hf 57 (by omega), hT.n]; exact le_n (by omega) (by omega)) ?_)
      rw [hf 58 (by omega), atI_oN (by omega) (by decide), hT.at_ i (by omega)]
      refine if_c (fun e => ?_) (fun e => ?_)
      · have ih := ih (i + 1) (by omega) I' hf g1 g2 (fun c h => by rw [pcl_s, if_pos e]; exact hc c h)
        rw [show prN T (i + 1) = if T i = 124 then prN T i else prN T i + 1 from rfl, if_pos e] at ih
        rw [oN_succ]
        exact ih
      · have hlt : prN T i < 49 := by
          have := prN_mono (T := T) (show i + 1 ≤ t by omega)
          rw [show prN T (i + 1) = if T i = 124 then prN T i else prN T i + 1 from rfl, if_neg e] at this
          omega
        have ih := ih (i + 1) (by omega) (w2 I' 3 (prN T i) (T i)) (fun a ha => by rw [w2_other _ _ _ (by omega)]; exact hf a ha) (by rw [w2_ne _ _ (by decide)]; exact g1) (by rw [w2_ne _ _ (by decide)]; exact g2) (fun c h => by
          rw [pcl_s, if_neg e, w2_at]
          by_cases q : c = prN T i
          · rw [if_pos ⟨rfl, q⟩, if_pos q]
          · rw [if_neg (fun h => q h.2), if_neg q]; exact hc c h)
        rw [show prN T (i + 1) = if T i = 124 then prN T i else prN T i + 1 from rfl, if_neg e] at ih
        rw [pI2_oN hlt (by decide), oN_succ, oN_succ]
        exact ih
  have lp : ∀ m i : Nat, i + m = t → EX (cal (d + 2)) 67 K 4 [some (.ref 57), some (.ref 2), some (.int (Int32.ofNat ((prR T i).1 + 1))), some (.int (Int32.ofNat i)), none] [] (0, 0) (hp fz nn (lay Ln) I J) := by
    intro m
    induction m with
    | zero =>
      intro i hi
      obtain rfl : i = t := hi
      refine r_67_4 hn (if_y (by rw [hT.n]; exact Int32.le_refl _) (sp_rowLen hn hT (by omega) (kc_v rfl rfl (r_67_44 hn ?_))))
      refine lp2 i 0 (by omega) _ (fun a ha => ?_) ?_ ?_ (fun c hc => ?_)
      · funext k
        rw [flI_at, if_neg (by omega), w2_other _ _ _ (by omega), w2_other _ _ _ (by omega)]
      · rw [flI_at, if_neg (by omega), w2_at, if_neg (by decide), w2_at, if_pos ⟨rfl, rfl⟩]
      · rw [flI_at, if_neg (by omega), w2_at, if_pos ⟨rfl, rfl⟩]
      · rw [flI_at, if_pos ⟨rfl, hc⟩]; rfl
    | succ m ih =>
      intro i hi
      have ih := ih (i + 1) (by omega)
      have hq := pr_ok (fun j hj => hall j (show j < t by omega) : ∀ j, j < i → pbad T j = false)
      refine r_67_4 hn (if_n (by rw [hT.n]; exact le_n (by omega) (by omega)) ?_)
      rw [atI_oN (by omega) (by decide), hT.at_ i (by omega), oN_succ, oN_succ, Int32.add_zero]
      rw [show prR T (i + 1) = if T i = 124 then ((prR T i).1 + 1, 0, if (prR T i).1 = 0 then (prR T i).2.1 else (prR T i).2.2) else ((prR T i).1, (prR T i).2.1 + 1, (prR T i).2.2) from rfl] at ih
      refine if_c (fun e => ?_) (fun e => ?_)
      · rw [if_pos e] at ih; exact ih
      · rw [if_neg e] at ih; exact ih
  exact call_in (Nat.le_of_ble_eq_true rfl) rfl rfl (r_67_0 hn (lp t 0 (by omega)))
end TXC
