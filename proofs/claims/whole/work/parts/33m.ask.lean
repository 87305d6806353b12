/-! ===== the reference's choices, repairs ===== -/
/-- what a search of the reference changes -/
def SeF (I : HI) (J : HJ) (I' : HI) (J' : HJ) : Prop := (∀ a k, ¬ (a = 64 ∨ a = 65 ∨ a = 68 ∨ a = 71 ∨ a = 72 ∨ a = 73 ∨ (a = 59 ∧ ((9 ≤ k ∧ k ≤ 11) ∨ k = 18 ∨ (22 ≤ k ∧ k ≤ 28)))) → I' a k = I a k) ∧ ∀ a k, ¬ (a = 69 ∨ a = 70 ∨ (a = 59 ∧ k = 29)) → J' a k = J a k
theorem SeF.q {I I' : HI} {J J' : HJ} (h : SeF I J I' J') : RQ I J I' J' := ⟨fun a k q => h.1 a k (by omega), fun a q => by funext k; exact h.2 a k (by omega)⟩
theorem fs0_fold {most : Nat} {ok : Int32 → Bool} {f : Int32 → SR → SR} (hf : ∀ g s, (sFd s = 0 → sFs s = []) → (sFd (f g s) = 0 → sFs (f g s) = [])) (l : List Int32) : ∀ s, (sFd s = 0 → sFs s = []) → (sFd (foldC most ok f l s) = 0 → sFs (foldC most ok f l s) = []) := by
  induction l with
  | nil => exact fun s h => h
  | cons g gs ih =>
    intro s h
    unfold foldC
    split
    · exact h
    · apply ih
      split
      · exact hf g s h
      · exact h
theorem fs0_look {all : Int64} {mk : Int32 → Int64} {cand : Nat → List Int32} {most : Nat} : ∀ (n : Nat) (p : List Int32) (cov : Int64) (s : SR), (sFd s = 0 → sFs s = []) → (sFd (lookS all mk cand most n p cov s) = 0 → sFs (lookS all mk cand most n p cov s) = []) := by
  intro n
  induction n with
  | zero => exact fun _ _ _ h => h
  | succ n ih =>
    intro p cov s h
    unfold lookS
    split
    · exact h
    · split
      · exact fun z => absurd z (Nat.succ_ne_zero _)
      · exact fs0_fold (fun g s' h' => ih _ _ _ h') _ _ h
section ASK
variable {d nn Ln : Nat} {fz : Bool} {K : Post} {I : HI} {J : HJ} {W H : Nat} {C : Cel} {w : Wds} {hs : List Sav} {t : Nat} {T : Nat → Int32} {most : Nat}
theorem sp_searches (hn : 74 ≤ nn) (hN : NowR I W H C) (h1 : 1 ≤ most) (h50 : most ≤ 50) (hK : ∀ I' J', SeF I J I' J' → R9 I' (runC W H C most) → I' 59 24 = b2 (sSt (runC W H C most)) → K (.inl none) (hp fz nn (lay Ln) I' J')) : cal (d + 6) 185 [.ref 59, .int (Int32.ofNat most)] (hp fz nn (lay Ln) I J) K := by
  have hb := hN.g28
  have er : runC W H C most = lookS (rmask C (W * H)) (mkS W H C) (fun _ => usb W H C (2 * (W + H))) most 29 [] 0 (0, 0, false, 0, []) := lookS_same hN.ws hN.hs 29 [] 0 _
  rw [er] at hK
  refine call_in (Nat.le_of_ble_eq_true rfl) rfl rfl (r_185_0 hn (sp_lays (d := d + 1) hn hN (fun I1 J1 f1 l1 a1 => kc_0 rfl rfl (r_185_4 hn ?_))))
  generalize hI2 : w2 (w2 (w2 (w2 (w2 I1 59 23 0) 59 25 0) 59 28 (-1)) 59 27 0) 59 22 0 = I2
  have f2 : ∀ a k, ¬ (a = 59 ∧ 22 ≤ k ∧ k ≤ 28) → I2 a k = I1 a k := fun a k hq => by
    rw [← hI2, w2_at, if_neg (by omega), w2_at, if_neg (by omega), w2_at, if_neg (by omega), w2_at, if_neg (by omega), w2_at, if_neg (by omega)]
  have r2 : R9 I2 (0, 0, false, 0, []) := by
    refine R9.mk ?_ ?_ ?_ ?_ (fun k h => absurd h (Nat.not_lt_zero k)) <;> · rw [← hI2]; rfl
  have l2 : Ly9 W H C I2 (x2 J1 70 0 0) (2 * (W + H)) := Ly9.mk (by rw [f2 59 18 (by omega)]; exact l1.n) (fun k hk => by rw [f2 68 k (by omega)]; exact l1.b k hk) (fun k hk => by rw [x2_at, if_neg (by omega)]; exact l1.m k hk)
  refine lp_node (d := d + 3) (W := W) (H := H) (C := C) (most := most) (Q := K) (G := 2 * (W + H)) hn h50 hb 29 [] 0 (0, 0, false, 0, []) I2 (x2 J1 70 0 0) _ rfl r2 (fun j h => absurd h (Nat.not_lt_zero j)) (Gd9.mk (fun i h => absurd h (Nat.not_lt_zero i)) (fun i h => absurd h (Nat.not_lt_zero i)) (fun i j h => absurd h (Nat.not_lt_zero i)) Int64.zero_and) (okN_0 h1) h1 (by rw [← hI2]; rfl) (by rw [show ([] : List Int32).length = 0 from rfl, x2_at, if_pos ⟨rfl, rfl⟩]) (by rw [x2_at, if_neg (by omega)]; exact a1) l2 (fun I' J' hh => kc_0 rfl rfl hh) (fun I3 J3 f3 r3 z3 hor => ?_) rfl
  have fin : K (.inl none) (hp fz nn (lay Ln) I3 J3) := hK I3 J3 ⟨fun a k hq => by rw [f3.1 a k (by omega), f2 a k (by omega)]; exact f1.1 a k (by omega), fun a k hq => by rw [f3.2 a k (by omega), x2_at, if_neg (by omega)]; exact f1.2 a k (by omega)⟩ r3 z3
  refine r_185_40 hn (if_c (fun _ => fin) (fun e => ?_))
  rcases hor with h | h
  · rw [z3, r3.fd]
    unfold ovS at h
    rw [Bool.or_eq_true] at h
    refine b2c (fun e2 => if_y ?_ fin) (fun _ => fin)
    rw [e2] at h
    have := decide_eq_true_iff.mp (h.resolve_left Bool.false_ne_true)
    rw [this]
    exact Int32.le_refl _
  · rw [h] at e
    exact absurd (by decide) e
theorem sr_choices (hn : 74 ≤ nn) {p : Int32} (hR : RfS I W H C w hs t T) (h1 : wi p 1 50 = false → ∀ I', RQ I J I' J → I' 59 4 = 1 → K (.inl (some (.int 0))) (hp fz nn (lay Ln) I' J))
    (h2 : wi p 1 50 = true → ∀ I' J', RQ I J I' J' → I' 59 4 = 0 → K (.inl (some (.int (Int32.ofNat (sFd (runC W H C p.toNatClampNeg)))))) (hp fz nn (lay Ln) I' J')) : cal (d + 7) 187 [.ref 59, .int p] (hp fz nn (lay Ln) I J) K := by
  refine call_in (Nat.le_of_ble_eq_true rfl) rfl rfl (r_187_0 (d := d + 4) hn ?_)
  rw [f9_in]
  refine b2c (fun e => h1 e _ (rq4 1) (at4 1)) (fun e => ?_)
  replace h2 := h2 e
  obtain ⟨l1, l2, l3⟩ := wi_nat (a := 1) (b := 50) (by decide) (by decide) e
  generalize p.toNatClampNeg = m at *
  subst l1
  refine sp_searches (d := d) hn (hR.now.r4 0) l2 l3 (fun I1 J1 f r z => kc_0 rfl rfl (r_187_26 (d := d + 4) hn ?_))
  rw [r.fd]
  exact h2 I1 J1 ((rq4 0).tr f.q) (by rw [f.1 59 4 (by omega)]; exact at4 0)
theorem sr_nodes (hn : 74 ≤ nn) {p : Int32} (hR : RfS I W H C w hs t T) (h1 : wi p 1 50 = false → ∀ I', RQ I J I' J → I' 59 4 = 1 → K (.inl (some (.int 0))) (hp fz nn (lay Ln) I' J))
    (h2 : wi p 1 50 = true → ∀ I' J', RQ I J I' J' → I' 59 4 = 0 → K (.inl (some (.int (nodV W H C p.toNatClampNeg)))) (hp fz nn (lay Ln) I' J')) : cal (d + 7) 188 [.ref 59, .int p] (hp fz nn (lay Ln) I J) K := by
  refine call_in (Nat.le_of_ble_eq_true rfl) rfl rfl (r_188_0 (d := d + 4) hn ?_)
  rw [f9_in]
  refine b2c (fun e => h1 e _ (rq4 1) (at4 1)) (fun e => ?_)
  replace h2 := h2 e
  obtain ⟨l1, l2, l3⟩ := wi_nat (a := 1) (b := 50) (by decide) (by decide) e
  generalize p.toNatClampNeg = m at *
  subst l1
  refine sp_searches (d := d) hn (hR.now.r4 0) l2 l3 (fun I1 J1 f r z => kc_0 rfl rfl (r_188_26 (d := d + 4) hn ?_))
  replace h2 := h2 I1 J1 ((rq4 0).tr f.q) (by rw [f.1 59 4 (by omega)]; exact at4 0)
  rw [z, r.lk]
  unfold nodV at h2
  refine b2c (fun e => ?_) (fun e => ?_)
  · rw [e, if_neg Bool.false_ne_true] at h2; exact h2
  · rw [e, if_pos rfl] at h2; exact h2
theorem sr_chosen (hn : 74 ≤ nn) {p : Int32} (hR : RfS I W H C w hs t T) (h1 : decide (0 ≤ p) = false → ∀ I', RQ I J I' J → I' 59 4 = 1 → K (.inl (some (.int 0))) (hp fz nn (lay Ln) I' J))
    (h2 : decide (0 ≤ p) = true → ∀ I' J', RQ I J I' J' → I' 59 4 = 0 → K (.inl (some (.int (chV W H C p)))) (hp fz nn (lay Ln) I' J')) : cal (d + 7) 189 [.ref 59, .int p] (hp fz nn (lay Ln) I J) K := by
  refine call_in (Nat.le_of_ble_eq_true rfl) rfl rfl (r_189_0 (d := d + 5) hn (if_c (fun e => ?_) (fun e => h1 (decide_eq_false e) _ (rq4 1) (at4 1))))
  replace h2 := h2 (decide_eq_true e)
  refine sp_searches (d := d) (most := 1) hn (hR.now.r4 0) (by decide) (by decide) (fun I1 J1 f r z => kc_0 rfl rfl (r_189_23 (d := d + 5) hn ?_))
  replace h2 := h2 I1 J1 ((rq4 0).tr f.q) (by rw [f.1 59 4 (by omega)]; exact at4 0)
  have ho := runC_ok (W := W) (H := H) (C := C) (most := 1) (by decide)
  have h0 : sFd (runC W H C 1) = 0 → sFs (runC W H C 1) = [] := fs0_look 29 [] 0 _ (fun _ => rfl)
  have o2 := ho.2.2.2
  unfold chV at h2
  rw [r.sz]
  obtain ⟨k1, k2⟩ := nn_nat e
  by_cases e1 : sFd (runC W H C 1) = 0
  · rw [if_pos e1] at h2
    rw [h0 e1]
    refine if_n ?_ h2
    exact Int32.not_lt.mpr e
  · rw [if_neg e1] at h2
    refine if_c (fun e2 => ?_) (fun e2 => ?_)
    · rw [if_neg (Int32.not_le.mpr e2)] at h2
      generalize p.toNatClampNeg = k at *
      subst k1
      have := (oN_lt k2 (by omega)).mp e2
      rw [r.fs k this]
      exact ⟨oN_vin (by omega) (by decide), h2⟩
    · rw [if_pos (Int32.not_lt.mp e2)] at h2
      exact h2
theorem sr_fewest (hn : 74 ≤ nn) (hR : RfS I W H C w hs t T) (h2 : ∀ I' J', RQ I J I' J' → K (.inl (some (.int (fewV W H C)))) (hp fz nn (lay Ln) I' J')) : cal (d + 7) 190 [.ref 59] (hp fz nn (lay Ln) I J) K := by
  refine call_in (Nat.le_of_ble_eq_true rfl) rfl rfl (r_190_0 hn ?_)
  refine sp_searches (d := d) (most := 50) hn (hR.now.r4 0) (by decide) (by decide) (fun I1 J1 f r z => kc_0 rfl rfl (r_190_11 hn ?_))
  rw [r.sm]
  exact h2 I1 J1 ((rq4 0).tr f.q)
theorem sr_repair (hn : 74 ≤ nn) (hR : RfS I W H C w hs t T) (h2 : ∀ I' J', RQ I J I' J' → K (.inl (some (.int (repS W H C (W * H))))) (hp fz nn (lay Ln) I' J')) : cal (d + 7) 191 [.ref 59] (hp fz nn (lay Ln) I J) K := by
  have hN := hR.now
  have h49 := hN.n
  -- a trial
  have trial : ∀ (I1 : HI) (J1 : HJ) (c k : Nat) (v : Int32), RQ I J I1 J1 → c < W * H → C c = 35 → Int32.ofNat k / 2 = Int32.ofNat c → (hasC W H C c v = true → ∀ I' J', RQ I J I' J' → K (.inl (some (.int (Int32.ofNat k)))) (hp fz nn (lay Ln) I' J')) → (hasC W H C c v = false → ∀ I' J', RQ I J I' J' → EX (cal (d + 5 + 1)) 191 K 7 [some (.ref 59), some (.int (Int32.ofNat (k + 1)))] [] (0, 0) (hp fz nn (lay Ln) I' J')) →
      vp_in (2 + Int32.ofNat c) 124 ∧ cal (d + 5 + 1) 185 [.ref 59, .int 1] (hp fz nn (lay Ln) (w2 I1 60 ((2 + Int32.ofNat c).toNatClampNeg) v) J1) (KC (d + 5 + 1) 191 K 57 [some (.ref 59), some (.int (Int32.ofNat k))] [] (0, 0) 185 (hp fz nn (lay Ln) (w2 I1 60 ((2 + Int32.ofNat c).toNatClampNeg) v) J1)) := by
    intro I1 J1 c k v q1 hc h35 hkc hyes hno
    have hN1 : NowR I1 W H C := hN.mono (q1.row (Or.inl rfl))
    have e2 : (2 : Int32) + Int32.ofNat c = Int32.ofNat (2 + c) := oN_add 2 c
    rw [e2, oN_clamp (by omega)]
    refine ⟨oN_vin (by omega) (by decide), ?_⟩
    have hN2 : NowR (w2 I1 60 (2 + c) v) W H (updC C c v) := by
      refine NowR.mk (by rw [w2_at, if_neg (by omega)]; exact hN1.w) (by rw [w2_at, if_neg (by omega)]; exact hN1.h) hN1.ws hN1.hs (fun x hx => ?_)
      rw [w2_at]
      show _ = if x = c then v else C x
      by_cases y : x = c
      · subst y; rw [if_pos ⟨rfl, rfl⟩, if_pos rfl]
      · rw [if_neg (by omega), if_neg y]; exact hN1.cl x hx
    refine sp_searches (d := d) (most := 1) hn hN2 (by decide) (by decide) (fun I3 J3 f3 r3 _ => kc_0 rfl rfl (r_191_57 (d := d + 5) hn ?_))
    rw [hkc, e2, oN_clamp (by omega)]
    refine ⟨oN_vin (by omega) (by decide), ?_⟩
    have q3 : RQ I J (w2 I3 60 (2 + c) 35) J3 := by
      refine ⟨fun a k hq => ?_, fun a hq => ?_⟩
      · by_cases y : a = 60 ∧ k = 2 + c
        · rw [w2_at, if_pos y, y.1, y.2, hN.cl c hc, h35]
        · rw [w2_at, if_neg y, f3.1 a k (by omega), w2_at, if_neg y]; exact q1.1 a k hq
      · rw [f3.q.2 a hq]; exact q1.2 a hq
    have o1 := (runC_ok (W := W) (H := H) (C := updC C c v) (most := 1) (by decide)).2.1
    rw [r3.fd, oN_succ]
    unfold hasC at hyes hno
    refine if_c (fun e => hno ?_ _ _ q3) (fun e => hyes ?_ _ _ q3)
    · have := (oN_le (b := 0) (by omega) (by decide)).mp e
      exact decide_eq_false (by omega)
    · have : ¬ sFd (runC W H (updC C c v) 1) ≤ 0 := fun z => e (le_y (b := 0) z (by decide))
      exact decide_eq_true (by omega)
  have stay : ∀ m c, c + m = W * H → repS W H C c ≠ -1 → repS W H C c = repS W H C (W * H) := by
    intro m
    induction m with
    | zero => intro c hm _; rw [show c = W * H from hm]
    | succ m ih =>
      intro c hm hne
      have e1 : repS W H C (c + 1) = repS W H C c := by
        show (if repS W H C c = -1 then _ else repS W H C c) = _
        rw [if_neg hne]
      rw [← ih (c + 1) (by omega) (by rw [e1]; exact hne), e1]
  have lp : ∀ m c, c + m = W * H → repS W H C c = -1 → ∀ I1 J1, RQ I J I1 J1 → EX (cal (d + 5 + 1)) 191 K 7 [some (.ref 59), some (.int (Int32.ofNat (2 * c)))] [] (0, 0) (hp fz nn (lay Ln) I1 J1) := by
    intro m
    induction m with
    | zero =>
      intro c hm hr I1 J1 q1
      obtain rfl : c = W * H := hm
      have hN1 : NowR I1 W H C := hN.mono (q1.row (Or.inl rfl))
      have e : (2 : Int32) * Int32.ofNat (W * H) = Int32.ofNat (2 * (W * H)) := oN_mul 2 (W * H)
      have := h2 I1 J1 q1
      rw [hr] at this
      exact r_191_7 (d := d + 5) hn (if_y (by rw [hN1.wh, e]; exact Int32.le_refl _) this)
    | succ m ih =>
      intro c hm hr I1 J1 q1
      have er : repS W H C (c + 1) = if C c = 35 then (if hasC W H C c 47 then Int32.ofNat (2 * c) else if hasC W H C c 92 then Int32.ofNat (2 * c + 1) else -1) else -1 := by
        show (if repS W H C c = -1 then _ else repS W H C c) = _
        rw [if_pos hr]
      have ew : ∀ I2 J2, RQ I J I2 J2 → (2 : Int32) * (I2 60 0 * I2 60 1) = Int32.ofNat (2 * (W * H)) := fun I2 J2 q2 => by
        have hN2 : NowR I2 W H C := hN.mono (q2.row (Or.inl rfl))
        rw [hN2.wh]; exact oN_mul 2 (W * H)
      have d0 : Int32.ofNat (2 * c) / 2 = Int32.ofNat c := by
        have : Int32.ofNat (2 * c) / Int32.ofNat 2 = Int32.ofNat (2 * c / 2) := oN_div (by omega) (by decide)
        rw [show 2 * c / 2 = c by omega] at this
        exact this
      have d1 : Int32.ofNat (2 * c + 1) / 2 = Int32.ofNat c := by
        have : Int32.ofNat (2 * c + 1) / Int32.ofNat 2 = Int32.ofNat ((2 * c + 1) / 2) := oN_div (by omega) (by decide)
        rw [show (2 * c + 1) / 2 = c by omega] at this
        exact this
      have p0 : Int32.ofNat (2 * c) - Int32.ofNat (2 * c) / 2 * 2 = 0 := by
        have : Int32.ofNat (2 * c) - Int32.ofNat (2 * c) / Int32.ofNat 2 * Int32.ofNat 2 = Int32.ofNat (2 * c % 2) := oN_mod (by omega) (by decide)
        rw [show 2 * c % 2 = 0 by omega] at this
        exact this
      have p1 : ¬ Int32.ofNat (2 * c + 1) - Int32.ofNat (2 * c + 1) / 2 * 2 = 0 := by
        have : Int32.ofNat (2 * c + 1) - Int32.ofNat (2 * c + 1) / Int32.ofNat 2 * Int32.ofNat 2 = Int32.ofNat ((2 * c + 1) % 2) := oN_mod (by omega) (by decide)
        rw [show (2 * c + 1) % 2 = 1 by omega] at this
        intro z
        rw [show Int32.ofNat (2 * c + 1) - Int32.ofNat (2 * c + 1) / 2 * 2 = Int32.ofNat 1 from this] at z
        exact absurd z (by decide)
      have ne : ∀ k : Nat, k < 200 → Int32.ofNat k ≠ -1 := fun k hk => g_ne (by omega)
      -- the second of both
      have second : ∀ I2 J2, RQ I J I2 J2 → (C c = 35 → hasC W H C c 47 = false) → EX (cal (d + 5 + 1)) 191 K 7 [some (.ref 59), some (.int (Int32.ofNat (2 * c + 1)))] [] (0, 0) (hp fz nn (lay Ln) I2 J2) := by
        intro I2 J2 q2 h47
        have hN2 : NowR I2 W H C := hN.mono (q2.row (Or.inl rfl))
        refine r_191_7 (d := d + 5) hn (if_n (by rw [ew I2 J2 q2]; exact le_n (by omega) (by omega)) ?_)
        rw [d1]
        refine sp_at9 (d := d + 5) hn hN2 (by omega) (kc_v rfl rfl (r_191_24 (d := d + 5) hn (if_c (fun e => if_n p1 ?_) (fun e => ?_))))
        · rw [d1]
          rw [if_pos e, h47 e, if_neg Bool.false_ne_true] at er
          refine trial I2 J2 c (2 * c + 1) 92 q2 (by omega) e d1 (fun h I' J' q' => ?_) (fun h I' J' q' => ?_)
          · rw [h, if_pos rfl] at er
            have := h2 I' J' q'
            rw [← stay m (c + 1) (by omega) (by rw [er]; exact ne _ (by omega)), er] at this
            exact this
          · rw [h, if_neg Bool.false_ne_true] at er
            exact ih (c + 1) (by omega) er I' J' q'
        · rw [if_neg e] at er
          rw [oN_succ]
          exact ih (c + 1) (by omega) er I2 J2 q2
      have hN1 : NowR I1 W H C := hN.mono (q1.row (Or.inl rfl))
      refine r_191_7 (d := d + 5) hn (if_n (by rw [ew I1 J1 q1]; exact le_n (by omega) (by omega)) ?_)
      rw [d0]
      refine sp_at9 (d := d + 5) hn hN1 (by omega) (kc_v rfl rfl (r_191_24 (d := d + 5) hn (if_c (fun e => if_y p0 ?_) (fun e => ?_))))
      · rw [d0]
        refine trial I1 J1 c (2 * c) 47 q1 (by omega) e d0 (fun h I' J' q' => ?_) (fun h I' J' q' => second I' J' q' (fun _ => h))
        rw [if_pos e, h, if_pos rfl] at er
        have := h2 I' J' q'
        rw [← stay m (c + 1) (by omega) (by rw [er]; exact ne _ (by omega)), er] at this
        exact this
      · rw [oN_succ]
        exact second I1 J1 q1 (fun z => absurd z e)
  exact call_in (Nat.le_of_ble_eq_true rfl) rfl rfl (r_191_0 (d := d + 5) hn (lp (W * H) 0 (Nat.zero_add _) rfl _ J (rq4 0)))
end ASK
