/-! ===== the reference's search ===== -/
def orR (C : Cel) (f : Nat → Nat) : Nat → Int64
  | 0 => 0
  | n + 1 => if isRB (C (f n)) then orR C f n ||| bitL (f n) else orR C f n
theorem orR_eq {C : Cel} {f : Nat → Nat} {n N : Nat} (hN : N ≤ 64) (hf : ∀ i, i < n → f i < N) : orR C f n = orB f n &&& rmask C N := by
  induction n with
  | zero => exact Int64.zero_and.symm
  | succ n ih =>
    have ih := ih (fun i hi => hf i (by omega))
    have hn := hf n (by omega)
    have e1 : orB f (n + 1) = orB f n ||| bitL (f n) := rfl
    have e2 : orR C f (n + 1) = if isRB (C (f n)) then orR C f n ||| bitL (f n) else orR C f n := rfl
    rw [e1, e2, ih]
    apply bt_ext
    intro c _
    rw [bt_and, bt_or, bt_rmask hN, bt_bit (by omega)]
    by_cases h : isRB (C (f n)) = true
    · rw [if_pos h, bt_or, bt_and, bt_rmask hN, bt_bit (by omega)]
      by_cases e : c = f n
      · subst e; simp [hn, h]
      · simp [e]
    · rw [if_neg h, bt_and, bt_rmask hN]
      by_cases e : c = f n
      · subst e; simp [h]
      · simp [e]
/-- the bands that the reference lays -/
def Ly9 (W H : Nat) (C : Cel) (I : HI) (J : HJ) (G : Nat) : Prop :=
  (I 59 18 = Int32.ofNat (usb W H C G).length) ∧
  (∀ k, k < (usb W H C G).length → I 68 k = (usb W H C G).getD k 0) ∧
  (∀ k, k < (usb W H C G).length → J 69 k = mkS W H C ((usb W H C G).getD k 0))
theorem Ly9.n {W H : Nat} {C : Cel} {I : HI} {J : HJ} {G : Nat} (h : Ly9 W H C I J G) : I 59 18 = Int32.ofNat (usb W H C G).length := h.1
theorem Ly9.b {W H : Nat} {C : Cel} {I : HI} {J : HJ} {G : Nat} (h : Ly9 W H C I J G) : ∀ k, k < (usb W H C G).length → I 68 k = (usb W H C G).getD k 0 := h.2.1
theorem Ly9.m {W H : Nat} {C : Cel} {I : HI} {J : HJ} {G : Nat} (h : Ly9 W H C I J G) : ∀ k, k < (usb W H C G).length → J 69 k = mkS W H C ((usb W H C G).getD k 0) := h.2.2
theorem Ly9.mk {W H : Nat} {C : Cel} {I : HI} {J : HJ} {G : Nat} (c_n : I 59 18 = Int32.ofNat (usb W H C G).length) (c_b : ∀ k, k < (usb W H C G).length → I 68 k = (usb W H C G).getD k 0) (c_m : ∀ k, k < (usb W H C G).length → J 69 k = mkS W H C ((usb W H C G).getD k 0)) : Ly9 W H C I J G := ⟨c_n, c_b, c_m⟩
/-- what the laying changes -/
def LyF (I : HI) (J : HJ) (I' : HI) (J' : HJ) : Prop := (∀ a k, ¬ (a = 64 ∨ a = 65 ∨ a = 68 ∨ (a = 59 ∧ ((9 ≤ k ∧ k ≤ 11) ∨ k = 18))) → I' a k = I a k) ∧ ∀ a k, ¬ (a = 69 ∨ (a = 59 ∧ k = 29)) → J' a k = J a k
theorem LyF.rf (I : HI) (J : HJ) : LyF I J I J := ⟨fun _ _ _ => rfl, fun _ _ _ => rfl⟩
theorem LyF.tr {I I' I'' : HI} {J J' J'' : HJ} (h : LyF I J I' J') (h2 : LyF I' J' I'' J'') : LyF I J I'' J'' := ⟨fun a k q => (h2.1 a k q).trans (h.1 a k q), fun a k q => (h2.2 a k q).trans (h.2 a k q)⟩
theorem LyF.now {I I' : HI} {J J' : HJ} {W H : Nat} {C : Cel} (h : LyF I J I' J') (hN : NowR I W H C) : NowR I' W H C := hN.mono (by funext k; exact h.1 60 k (by omega))
theorem WkF.ly {I I' : HI} {J : HJ} (h : WkF I I') : LyF I J I' J := ⟨fun a k q => h a k (by omega), fun _ _ _ => rfl⟩
section LAY
variable {d nn Ln : Nat} {fz : Bool} {K : Post} {I : HI} {J : HJ} {W H : Nat} {C : Cel}
theorem or0 (x : Int64) : x ||| 0 = x := by
  apply bt_ext
  intro c _
  rw [bt_or, bt_zero, Bool.or_false]
theorem sp_lays (hn : 74 ≤ nn) (hN : NowR I W H C) (hK : ∀ I' J', LyF I J I' J' → Ly9 W H C I' J' (2 * (W + H)) → J' 59 29 = rmask C (W * H) → K (.inl none) (hp fz nn (lay Ln) I' J')) : cal (d + 4) 182 [.ref 59] (hp fz nn (lay Ln) I J) K := by
  have hb := hN.g28
  have h49 := hN.n
  have hW := hN.W0
  have hH := hN.H0
  -- all runes
  have lp3 : ∀ I2, NowR I2 W H C → ∀ (J0 : HJ), (∀ (J' : HJ), (∀ a k, ¬ (a = 59 ∧ k = 29) → J' a k = J0 a k) → J' 59 29 = rmask C (W * H) → K (.inl none) (hp fz nn (lay Ln) I2 J')) → ∀ m k, k + m = W * H → ∀ J2, (∀ a q, ¬ (a = 59 ∧ q = 29) → J2 a q = J0 a q) → J2 59 29 = rmask C k → EX (cal (d + 3)) 182 K 137 [some (.ref 59), some (.int (Int32.ofNat k)), none, none, none] [] (0, 0) (hp fz nn (lay Ln) I2 J2) := by
    intro I2 hN2 J0 hfin m
    induction m with
    | zero =>
      intro k hk J2 f2 g2
      obtain rfl : k = W * H := hk
      exact r_182_137 hn (if_y (by rw [hN2.wh]; exact Int32.le_refl _) (hfin J2 f2 g2))
    | succ m ih =>
      intro k hk J2 f2 g2
      refine r_182_137 hn (if_n (by rw [hN2.wh]; exact le_n (by omega) (by omega)) (sp_at9 (d := d + 2) hn hN2 (by omega) (kc_v rfl rfl (r_182_155 hn ?_))))
      rw [f9_rune, oN_succ, g2]
      have er : rmask C (k + 1) = if isRB (C k) then rmask C k ||| bitL k else rmask C k := rfl
      refine b2c (fun e => ?_) (fun e => ?_)
      · rw [or0]
        refine ih (k + 1) (by omega) _ (fun a q hq => by rw [x2_at, if_neg hq]; exact f2 a q hq) ?_
        rw [x2_at, if_pos ⟨rfl, rfl⟩, er, e]; rfl
      · refine ih (k + 1) (by omega) _ (fun a q hq => by rw [x2_at, if_neg hq]; exact f2 a q hq) ?_
        rw [x2_at, if_pos ⟨rfl, rfl⟩, er, e]; rfl
  -- the runes of a band
  have lp2 : ∀ G, G < 2 * (W + H) → ∀ I1 J1, LyF I J I1 J1 → Ly9 W H C I1 J1 G → Wk W H C I1 G → (∀ I2 J2, LyF I J I2 J2 → Ly9 W H C I2 J2 (G + 1) → EX (cal (d + 3)) 182 K 7 [some (.ref 59), some (.int (Int32.ofNat (G + 1))), none, none, none] [] (0, 0) (hp fz nn (lay Ln) I2 J2)) →
      ∀ m i, i + m = bN W H C G → EX (cal (d + 3)) 182 K 25 [some (.ref 59), some (.int (Int32.ofNat G)), some (.long (orR C (pC W H C G) i)), none, some (.int (Int32.ofNat i))] [] (0, 0) (hp fz nn (lay Ln) I1 J1) := by
    intro G hG I1 J1 f1 l1 k1 hnext m
    have hN1 := f1.now hN
    have hbn := bN_le (C := C) hW hH hG
    induction m with
    | zero =>
      intro i hi
      obtain rfl : i = bN W H C G := hi
      have hlen := usb_len (W := W) (H := H) (C := C) (G := G)
      have eo : orR C (pC W H C G) (bN W H C G) = orB (pC W H C G) (bN W H C G) &&& rmask C (W * H) := orR_eq (by omega) (fun i hi => pC_lt hW hH hG hi)
      refine r_182_25 hn (if_y (by rw [k1.wi.st]; exact Int32.le_refl _) ?_)
      rw [first_eq k1.en, oN_succ]
      have skip : mkG W H C G = 0 → EX (cal (d + 3)) 182 K 7 [some (.ref 59), some (.int (Int32.ofNat (G + 1))), none, none, none] [] (0, 0) (hp fz nn (lay Ln) I1 J1) := by
        intro e
        have eu : usb W H C (G + 1) = usb W H C G := by rw [usb_succ, if_neg (fun z => z e)]
        exact hnext I1 J1 f1 (Ly9.mk (by rw [eu]; exact l1.n) (by rw [eu]; exact l1.b) (by rw [eu]; exact l1.m))
      refine b2c (fun e => skip ?_) (fun e => if_c (fun e1 => skip ?_) (fun e1 => wk_crosses (d := d + 2) hn hN1 hG k1 (kc_v rfl rfl (r_182_91 hn ?_))))
      · unfold mkG; rw [if_neg (fun z => by rw [e] at z; cases z.2.1)]
      · have := (cmp0 _).mp e1
        unfold mkG
        split
        · rw [← eo]; exact this
        · rfl
      · have e1 := fun z => e1 ((cmp0 _).mpr z)
        rw [oN_succ]
        refine b2c (fun e2 => ?_) (fun e2 => skip ?_)
        · have em : mkG W H C G = orR C (pC W H C G) (bN W H C G) := by
            unfold mkG
            rw [if_pos ⟨hG, e, e2⟩, eo]
          have eu : usb W H C (G + 1) = usb W H C G ++ [Int32.ofNat G] := by rw [usb_succ, if_pos (by rw [em]; exact e1)]
          rw [l1.n, oN_clamp (by omega), oN_succ]
          refine ⟨oN_vin (by omega) (by decide), hnext _ _ ⟨fun a k hq => ?_, fun a k hq => ?_⟩ (Ly9.mk ?_ (fun k hk => ?_) (fun k hk => ?_))⟩
          · rw [w2_at, if_neg (by omega), w2_at, if_neg (by omega)]; exact f1.1 a k hq
          · rw [x2_at, if_neg (by omega)]; exact f1.2 a k hq
          · rw [w2_at, if_pos ⟨rfl, rfl⟩, eu]; simp
          · rw [eu] at hk ⊢
            rw [w2_ne _ _ (by decide), w2_at]
            by_cases y : k = (usb W H C G).length
            · subst y; rw [if_pos ⟨rfl, rfl⟩, gD_app2]
            · have hk2 : k < (usb W H C G).length := by simp at hk; omega
              rw [if_neg (fun z => y z.2), gD_app1 _ _ hk2]; exact l1.b k hk2
          · rw [eu] at hk ⊢
            rw [x2_at]
            by_cases y : k = (usb W H C G).length
            · subst y; rw [if_pos ⟨rfl, rfl⟩, gD_app2, mkS_at (by omega), em]
            · have hk2 : k < (usb W H C G).length := by simp at hk; omega
              rw [if_neg (fun z => y z.2), gD_app1 _ _ hk2]; exact l1.m k hk2
        · unfold mkG; rw [if_neg (fun z => by rw [e2] at z; cases z.2.2)]
    | succ m ih =>
      intro i hi
      have ih := ih (i + 1) (by omega)
      have er : orR C (pC W H C G) (i + 1) = if isRB (C (pC W H C G i)) then orR C (pC W H C G) i ||| bitL (pC W H C G i) else orR C (pC W H C G) i := rfl
      rw [er] at ih
      refine r_182_25 hn (if_n (by rw [k1.wi.st]; exact le_n (by omega) (by omega)) ⟨oN_vin (by omega) (by decide), ?_⟩)
      rw [oN_clamp (by omega), k1.wi.pa i (by omega)]
      refine sp_at9 (d := d + 2) hn hN1 (pC_lt hW hH hG (by omega)) (kc_v rfl rfl (r_182_46 hn ?_))
      rw [f9_rune, or0, oN_succ, oN_clamp (by omega), k1.wi.pa i (by omega)]
      refine b2c (fun e => ?_) (fun e => ⟨oN_vin (by omega) (by decide), ?_⟩)
      · rw [e, if_neg Bool.false_ne_true] at ih; exact ih
      · rw [e, if_pos rfl] at ih; exact ih
  have lp : ∀ m G, G + m = 2 * (W + H) → ∀ I1 J1, LyF I J I1 J1 → Ly9 W H C I1 J1 G → EX (cal (d + 3)) 182 K 7 [some (.ref 59), some (.int (Int32.ofNat G)), none, none, none] [] (0, 0) (hp fz nn (lay Ln) I1 J1) := by
    intro m
    induction m with
    | zero =>
      intro G hG I1 J1 f1 l1
      obtain rfl : G = 2 * (W + H) := hG
      have hN1 := f1.now hN
      refine r_182_7 hn (if_y (by rw [hN1.gt]; exact Int32.le_refl _) ?_)
      refine lp3 I1 hN1 J1 (fun J' g1 g2 => hK I1 J' ⟨f1.1, fun a k hq => ?_⟩ (Ly9.mk l1.n l1.b (fun k hk => ?_)) g2) _ 0 (Nat.zero_add _) _ (fun a q hq => by rw [x2_at, if_neg hq]) (by rw [x2_at, if_pos ⟨rfl, rfl⟩]; rfl)
      · rw [g1 a k (by omega)]; exact f1.2 a k hq
      · rw [g1 69 k (by omega)]; exact l1.m k hk
    | succ m ih =>
      intro G hG I1 J1 f1 l1
      have hG' : G < 2 * (W + H) := by omega
      have hN1 := f1.now hN
      refine r_182_7 hn (if_n (by rw [hN1.gt]; exact le_n (by omega) (by omega)) (sp_walks (d := d + 1) hn hN1 hG' (fun I2 f2 k2 => kc_0 rfl rfl (r_182_20 hn ?_))))
      have l2 : Ly9 W H C I2 J1 G := Ly9.mk (by rw [f2 59 18 (by omega)]; exact l1.n) (fun k hk => by rw [f2 68 k (by omega)]; exact l1.b k hk) l1.m
      exact lp2 G hG' I2 J1 (f1.tr f2.ly) l2 k2 (fun I3 J3 f3 l3 => ih (G + 1) (by omega) I3 J3 f3 l3) _ 0 (Nat.zero_add _)
  refine call_in (Nat.le_of_ble_eq_true rfl) rfl rfl (r_182_0 hn (lp _ 0 (Nat.zero_add _) _ J ⟨fun a k hq => by rw [w2_at, if_neg (by omega)], fun _ _ _ => rfl⟩ (Ly9.mk (by rw [w2_at, if_pos ⟨rfl, rfl⟩]; rfl) (fun k h => absurd h (Nat.not_lt_zero k)) (fun k h => absurd h (Nat.not_lt_zero k)))))
end LAY
/-- where the reference's search stands -/
def R9 (I : HI) (s : SR) : Prop :=
  (I 59 23 = Int32.ofNat (sLk s)) ∧
  (I 59 25 = Int32.ofNat (sFd s)) ∧
  (I 59 27 = Int32.ofNat (sFs s).length) ∧
  (I 59 28 = if sFd s = 0 then -1 else Int32.ofNat (sSm s)) ∧
  (∀ k, k < (sFs s).length → I 73 k = (sFs s).getD k 0)
theorem R9.lk {I : HI} {s : SR} (h : R9 I s) : I 59 23 = Int32.ofNat (sLk s) := h.1
theorem R9.fd {I : HI} {s : SR} (h : R9 I s) : I 59 25 = Int32.ofNat (sFd s) := h.2.1
theorem R9.sz {I : HI} {s : SR} (h : R9 I s) : I 59 27 = Int32.ofNat (sFs s).length := h.2.2.1
theorem R9.sm {I : HI} {s : SR} (h : R9 I s) : I 59 28 = if sFd s = 0 then -1 else Int32.ofNat (sSm s) := h.2.2.2.1
theorem R9.fs {I : HI} {s : SR} (h : R9 I s) : ∀ k, k < (sFs s).length → I 73 k = (sFs s).getD k 0 := h.2.2.2.2
theorem R9.mk {I : HI} {s : SR} (c_lk : I 59 23 = Int32.ofNat (sLk s)) (c_fd : I 59 25 = Int32.ofNat (sFd s)) (c_sz : I 59 27 = Int32.ofNat (sFs s).length) (c_sm : I 59 28 = if sFd s = 0 then -1 else Int32.ofNat (sSm s)) (c_fs : ∀ k, k < (sFs s).length → I 73 k = (sFs s).getD k 0) : R9 I s := ⟨c_lk, c_fd, c_sz, c_sm, c_fs⟩
/-- the bands chosen so far, by their places -/
def Stk (I : HI) (p : List Int32) : Prop := ∀ j, j < p.length → ∃ q, q < 28 ∧ I 72 j = Int32.ofNat q ∧ I 68 q = p.getD j 0
/-- what a search from a depth on changes -/
def ScF (D : Nat) (I : HI) (J : HJ) (I' : HI) (J' : HJ) : Prop := (∀ a k, ¬ ((a = 59 ∧ 22 ≤ k ∧ k ≤ 28) ∨ a = 73 ∨ ((a = 71 ∨ a = 72) ∧ D ≤ k)) → I' a k = I a k) ∧ ∀ a k, ¬ (a = 70 ∧ D < k) → J' a k = J a k
theorem ScF.rf (D : Nat) (I : HI) (J : HJ) : ScF D I J I J := ⟨fun _ _ _ => rfl, fun _ _ _ => rfl⟩
theorem ScF.tr {D : Nat} {I I' I'' : HI} {J J' J'' : HJ} (h : ScF D I J I' J') (h2 : ScF D I' J' I'' J'') : ScF D I J I'' J'' := ⟨fun a k q => (h2.1 a k q).trans (h.1 a k q), fun a k q => (h2.2 a k q).trans (h.2 a k q)⟩
theorem ScF.up {D : Nat} {I I' : HI} {J J' : HJ} (h : ScF (D + 1) I J I' J') : ScF D I J I' J' := ⟨fun a k q => h.1 a k (by omega), fun a k q => h.2 a k (by omega)⟩
theorem Stk.mono {D : Nat} {I I' : HI} {J J' : HJ} {p : List Int32} (h : Stk I p) (hf : ScF D I J I' J') (hD : p.length ≤ D) : Stk I' p := fun j hj => by
  obtain ⟨q, h1, h2, h3⟩ := h j hj
  exact ⟨q, h1, by rw [hf.1 72 j (by omega)]; exact h2, by rw [hf.1 68 q (by omega)]; exact h3⟩
section SRH
variable {d nn Ln : Nat} {fz : Bool} {K : Post} {J : HJ} {W H : Nat} {C : Cel} {most : Nat}
theorem sp_finds {I : HI} {s : SR} {p : List Int32} (hn : 74 ≤ nn) (hR : R9 I s) (hS : Stk I p) (hpl : p.length ≤ 28) (ho : okN50 most s) (hm : most ≤ 50) (hD : I 59 22 = Int32.ofNat p.length)
    (hK : ∀ I', (∀ a k, ¬ ((a = 59 ∧ (k = 25 ∨ k = 27 ∨ k = 28)) ∨ a = 73) → I' a k = I a k) → R9 I' (keepS p s) → K (.inl none) (hp fz nn (lay Ln) I' J)) : cal (d + 1) 183 [.ref 59] (hp fz nn (lay Ln) I J) K := by
  have o1 := ho.2.1
  have o2 := ho.2.2.1
  refine call_in (Nat.le_of_ble_eq_true rfl) rfl rfl (r_183_0 hn ?_)
  rw [hR.fd, oN_succ, hD]
  refine if_c (fun e => ?_) (fun e => ?_)
  · have e0 : sFd s = 0 := by
      have := (oN_eq (b := 1) (by omega) (by decide)).mp e
      omega
    have lp : ∀ m k, k + m = p.length → ∀ I2, (∀ a k, ¬ ((a = 59 ∧ (k = 25 ∨ k = 27 ∨ k = 28)) ∨ a = 73) → I2 a k = I a k) → I2 59 25 = Int32.ofNat (sFd s + 1) → I2 59 27 = Int32.ofNat p.length → (∀ j, j < k → I2 73 j = p.getD j 0) → EX (cal d) 183 K 28 [some (.ref 59), some (.int (Int32.ofNat k))] [] (0, 0) (hp fz nn (lay Ln) I2 J) := by
      intro m
      induction m with
      | zero =>
        intro k hk I2 f2 a2 b2' c2
        obtain rfl : k = p.length := hk
        have hd2 : I2 59 22 = Int32.ofNat p.length := by rw [f2 59 22 (by omega)]; exact hD
        refine r_183_28 hn (if_y (by rw [hd2]; exact Int32.le_refl _) (if_y (by rw [a2]; exact e) ?_))
        rw [hd2]
        refine hK _ (fun a k hq => ?_) (R9.mk ?_ ?_ ?_ ?_ (fun k hk => ?_))
        · rw [w2_at, if_neg (by omega)]; exact f2 a k hq
        · rw [w2_at, if_neg (by decide), f2 59 23 (by omega)]; exact hR.lk
        · rw [w2_at, if_neg (by decide)]; exact a2
        · rw [w2_at, if_neg (by decide)]
          show _ = Int32.ofNat (if sFd s = 0 then p else sFs s).length
          rw [if_pos e0]; exact b2'
        · rw [w2_at, if_pos ⟨rfl, rfl⟩]
          show _ = if sFd s + 1 = 0 then (-1 : Int32) else Int32.ofNat (if sFd s = 0 then p.length else min (sSm s) p.length)
          rw [if_neg (Nat.succ_ne_zero _), if_pos e0]
        · have hk : k < (if sFd s = 0 then p else sFs s).length := hk
          rw [if_pos e0] at hk
          rw [w2_ne _ _ (by decide)]
          show _ = (if sFd s = 0 then p else sFs s).getD k 0
          rw [if_pos e0]; exact c2 k hk
      | succ m ih =>
        intro k hk I2 f2 a2 b2' c2
        have hd2 : I2 59 22 = Int32.ofNat p.length := by rw [f2 59 22 (by omega)]; exact hD
        obtain ⟨q, h1, h2, h3⟩ := hS k (by omega)
        refine r_183_28 hn (if_n (by rw [hd2]; exact le_n (by omega) (by omega)) ?_)
        rw [oN_clamp (by omega), f2 72 k (by omega), h2, oN_clamp (by omega), f2 68 q (by omega), h3, oN_succ]
        refine ⟨oN_vin (by omega) (by decide), oN_vin (by omega) (by decide), ih (k + 1) (by omega) _ (fun a j hq => ?_) ?_ ?_ (fun j hj => ?_)⟩
        · rw [w2_at, if_neg (by omega)]; exact f2 a j hq
        · rw [w2_ne _ _ (by decide)]; exact a2
        · rw [w2_ne _ _ (by decide)]; exact b2'
        · rw [w2_at]
          by_cases y : j = k
          · subst y; rw [if_pos ⟨rfl, rfl⟩]
          · rw [if_neg (by omega)]; exact c2 j (by omega)
    refine lp p.length 0 (Nat.zero_add _) _ (fun a k hq => by rw [w2_at, if_neg (by omega), w2_at, if_neg (by omega)]) ?_ ?_ (fun j h => absurd h (Nat.not_lt_zero j))
    · rw [w2_at, if_neg (by decide), w2_at, if_pos ⟨rfl, rfl⟩]
    · rw [w2_at, if_pos ⟨rfl, rfl⟩]
  · have e0 : ¬ sFd s = 0 := fun z => e (by rw [z]; rfl)
    have e28 : I 59 28 = Int32.ofNat (sSm s) := by rw [hR.sm, if_neg e0]
    have fin : ∀ x : Int32, x = Int32.ofNat (min (sSm s) p.length) → K (.inl none) (hp fz nn (lay Ln) (w2 (w2 I 59 25 (Int32.ofNat (sFd s + 1))) 59 28 x) J) := by
      intro x hx
      refine hK _ (fun a k hq => by rw [w2_at, if_neg (by omega), w2_at, if_neg (by omega)]) (R9.mk ?_ ?_ ?_ ?_ (fun k hk => ?_))
      · rw [w2_at, if_neg (by decide), w2_at, if_neg (by decide)]; exact hR.lk
      · rw [w2_at, if_neg (by decide), w2_at, if_pos ⟨rfl, rfl⟩]; rfl
      · rw [w2_at, if_neg (by decide), w2_at, if_neg (by decide)]
        show _ = Int32.ofNat (if sFd s = 0 then p else sFs s).length
        rw [if_neg e0]; exact hR.sz
      · rw [w2_at, if_pos ⟨rfl, rfl⟩]
        show _ = if sFd s + 1 = 0 then (-1 : Int32) else Int32.ofNat (if sFd s = 0 then p.length else min (sSm s) p.length)
        rw [if_neg (Nat.succ_ne_zero _), if_neg e0]; exact hx
      · have hk : k < (if sFd s = 0 then p else sFs s).length := hk
        rw [if_neg e0] at hk
        rw [w2_ne _ _ (by decide), w2_ne _ _ (by decide)]
        show _ = (if sFd s = 0 then p else sFs s).getD k 0
        rw [if_neg e0]; exact hR.fs k hk
    rw [e28]
    refine if_c (fun e2 => fin _ ?_) (fun e2 => fin _ ?_)
    · have := (oN_le (by omega) (by omega)).mp e2
      rw [Nat.min_eq_left this]
    · have : ¬ sSm s ≤ p.length := fun z => e2 (le_y z (by omega))
      rw [Nat.min_eq_right (by omega)]
theorem bit_at (x : Int64) {w : Nat} (hw : w < 64) : ((x >>> ((Int32.ofNat w).toInt64 &&& 63)) &&& 1 = 0) ↔ bt x w = false := by
  have hs : ((Int32.ofNat w).toInt64 &&& 63).toBitVec.smod 64 = BitVec.ofNat 64 w := by
    have : ∀ w, w < 64 → ((Int32.ofNat w).toInt64 &&& 63).toBitVec.smod 64 = BitVec.ofNat 64 w := by decide +kernel
    exact this w hw
  have hb : ∀ i, bt (x >>> ((Int32.ofNat w).toInt64 &&& 63)) i = (decide (i < 64) && (if w + i < 64 then bt x (w + i) else bt x 63)) := by
    intro i
    unfold bt
    rw [Int64.toBitVec_shiftRight, hs]
    rw [BitVec.sshiftRight_eq', BitVec.toNat_ofNat, Nat.mod_eq_of_lt (by omega), BitVec.getLsbD_sshiftRight]
    by_cases hi : i < 64
    · rw [BitVec.msb_eq_getLsbD_last]
      simp [hi]
    · simp [hi]
  have h1 : (1 : Int64) = bitL 0 := by decide
  rw [h1, low_and _ (by decide) rfl, hb 0]
  simp [hw]
theorem bit_at1 (x : Int64) {w : Nat} (hw : w < 64) : ((x >>> ((Int32.ofNat w).toInt64 &&& 63)) &&& 1 = 1) ↔ bt x w = true := by
  have h1 : (1 : Int64) = bitL 0 := by decide
  have key : ∀ y : Int64, y &&& 1 = 1 ↔ ¬ y &&& 1 = 0 := by
    intro y
    constructor
    · intro h h2
      rw [h] at h2
      exact absurd h2 (by decide)
    · intro h
      apply bt_ext
      intro c _
      rw [h1, bt_and, bt_bit (by decide)]
      by_cases e : c = 0
      · subst e
        have : bt y 0 = true := by
          cases z : bt y 0 with
          | true => rfl
          | false => exact absurd ((low_and y (by decide) h1).mpr z) h
        rw [this]; rfl
      · simp [e]
  rw [key, bit_at x hw]
  simp
theorem cmp1 (x y : Int64) : lg_cmp x y = 0 ↔ x = y := by
  unfold lg_cmp
  constructor
  · intro h
    split at h
    · cases h
    · split at h
      · assumption
      · cases h
  · rintro rfl
    rw [if_neg (Int64.lt_irrefl), if_pos rfl]
end SRH
