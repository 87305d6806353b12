/-! ===== the reference's readings ===== -/
def phB (b : Int32) : Int32 := if b = 32 then -1 else b - 97
def GdL (L : List Int32) : Prop := ∀ k, k < L.length → isLB (L.getD k 0) = true ∨ (L.getD k 0 = 32 ∧ 1 ≤ k ∧ isLB (L.getD (k - 1) 0) = true ∧ k + 1 < L.length)
theorem lb_nat {v : Int32} (h : isLB v = true) : ∃ k, v = Int32.ofNat k ∧ 97 ≤ k ∧ k ≤ 122 := by
  obtain ⟨e, h1, h2⟩ := wi_nat (p := v) (a := 97) (b := 122) (by decide) (by decide) h
  exact ⟨_, e, h1, h2⟩
theorem sb_nat {v : Int32} (h : isSB v = true) : ∃ k, v = Int32.ofNat k ∧ 65 ≤ k ∧ k ≤ 90 := by
  obtain ⟨e, h1, h2⟩ := wi_nat (p := v) (a := 65) (b := 90) (by decide) (by decide) h
  exact ⟨_, e, h1, h2⟩
theorem lb_32 {v : Int32} (h : isLB v = true) : v ≠ 32 := by
  rintro rfl
  exact absurd h (by decide)
theorem lb_58 {v : Int32} (h : isLB v = true) : v ≠ 58 := by
  rintro rfl
  exact absurd h (by decide)
theorem sb_58 {v : Int32} (h : isSB v = true) : v ≠ 58 := by
  rintro rfl
  exact absurd h (by decide)
theorem lb_sb {v : Int32} (h : isLB v = true) : isSB v = false := by
  obtain ⟨k, rfl, h1, h2⟩ := lb_nat h
  have : ∀ k, k < 123 → 97 ≤ k → isSB (Int32.ofNat k) = false := by decide
  exact this k (by omega) h1
theorem sb_up {v : Int32} (h : isSB v = true) : isLB (v - 65 + 97) = true ∧ phB (v - 65 + 97) = v - 65 := by
  obtain ⟨k, rfl, h1, h2⟩ := sb_nat h
  have : ∀ k, k < 91 → 65 ≤ k → isLB (Int32.ofNat k - 65 + 97) = true ∧ phB (Int32.ofNat k - 65 + 97) = Int32.ofNat k - 65 := by decide
  exact this k (by omega) h1
theorem ph_lb {v : Int32} (h : isLB v = true) : phB v = v - 97 := if_neg (lb_32 h)
theorem ph_m1 {v : Int32} (h : isLB v = true) : phB v ≠ -1 := by
  rw [ph_lb h]
  obtain ⟨k, rfl, h1, h2⟩ := lb_nat h
  have : ∀ k, k < 123 → 97 ≤ k → Int32.ofNat k - 97 ≠ -1 := by decide
  exact this k (by omega) h1
theorem sub97 {a b : Int32} : a - 97 = b - 97 ↔ a = b := by
  constructor
  · intro h
    have := congrArg (fun x => x + 97) h
    simpa [Int32.sub_add_cancel] using this
  · rintro rfl; rfl
theorem gD_2 (l : List Int32) (v u : Int32) : (∀ k, k < l.length → (l ++ [v, u]).getD k 0 = l.getD k 0) ∧ (l ++ [v, u]).getD l.length 0 = v ∧ (l ++ [v, u]).getD (l.length + 1) 0 = u := by
  refine ⟨fun k hk => ?_, ?_, ?_⟩
  · simp [List.getD, List.getElem?_append, hk]
  · simp [List.getD]
  · simp [List.getD, List.getElem?_append]
theorem gd_add {st : List Int32 × Bool} {l : Int32} (h : GdL st.1) (hl : isLB l = true) : GdL (addL st l).1 := by
  unfold addL
  by_cases q : st.2 = true ∧ st.1 ≠ []
  · rw [if_pos q]
    obtain ⟨g1, g2, g3⟩ := gD_2 st.1 32 l
    have hpos : 0 < st.1.length := List.length_pos_iff.mpr q.2
    intro k hk
    have hlen : (st.1 ++ [32, l]).length = st.1.length + 2 := by simp
    have hk : k < st.1.length + 2 := by rw [← hlen]; exact hk
    show isLB ((st.1 ++ [32, l]).getD k 0) = true ∨ ((st.1 ++ [32, l]).getD k 0 = 32 ∧ 1 ≤ k ∧ isLB ((st.1 ++ [32, l]).getD (k - 1) 0) = true ∧ k + 1 < (st.1 ++ [32, l]).length)
    rw [hlen]
    by_cases e1 : k < st.1.length
    · rw [g1 k e1, g1 (k - 1) (by omega)]
      rcases h k e1 with h1 | ⟨h1, h2, h3, h4⟩
      · exact Or.inl h1
      · exact Or.inr ⟨h1, h2, h3, by omega⟩
    · by_cases e2 : k = st.1.length
      · subst e2
        right
        refine ⟨g2, by omega, ?_, by omega⟩
        rw [g1 _ (by omega)]
        rcases h (st.1.length - 1) (by omega) with h1 | ⟨_, _, _, h4⟩
        · exact h1
        · omega
      · have e3 : k = st.1.length + 1 := by omega
        subst e3
        left
        rw [g3]; exact hl
  · rw [if_neg q]
    intro k hk
    have hlen : (st.1 ++ [l]).length = st.1.length + 1 := by simp
    have hk : k < st.1.length + 1 := by rw [← hlen]; exact hk
    show isLB ((st.1 ++ [l]).getD k 0) = true ∨ ((st.1 ++ [l]).getD k 0 = 32 ∧ 1 ≤ k ∧ isLB ((st.1 ++ [l]).getD (k - 1) 0) = true ∧ k + 1 < (st.1 ++ [l]).length)
    rw [hlen]
    by_cases e1 : k < st.1.length
    · rw [gD_app1 _ _ e1, gD_app1 _ _ (show k - 1 < st.1.length by omega)]
      rcases h k e1 with h1 | ⟨h1, h2, h3, h4⟩
      · exact Or.inl h1
      · exact Or.inr ⟨h1, h2, h3, by omega⟩
    · have e3 : k = st.1.length := by omega
      subst e3
      left
      rw [gD_app2]; exact hl
theorem gd_take {st : List Int32 × Bool} {v : Int32} (h : GdL st.1) : GdL (takeC st v).1 := by
  unfold takeC
  split
  · rename_i e; exact gd_add h e
  · split
    · rename_i e
      exact gd_add (st := ((addL st (v - 65 + 97)).1, true)) (gd_add h (sb_up e).1) (sb_up e).1
    · split
      · exact h
      · exact h
theorem gd_rdW (f : Nat → Int32) (n : Nat) : GdL (rdW f n).1 := by
  induction n with
  | zero => exact fun k h => absurd h (Nat.not_lt_zero k)
  | succ n ih => exact gd_take ih
theorem gd_rdg (W H : Nat) (C : Cel) (g : Nat) : GdL (rdg W H C g) := gd_rdW _ _
def Rd9 (I : HI) (L : List Int32) : Prop :=
  (I 59 13 = Int32.ofNat L.length) ∧
  (∀ k, k < L.length → I 66 k = phB (L.getD k 0))
theorem Rd9.n {I : HI} {L : List Int32} (h : Rd9 I L) : I 59 13 = Int32.ofNat L.length := h.1
theorem Rd9.at_ {I : HI} {L : List Int32} (h : Rd9 I L) : ∀ k, k < L.length → I 66 k = phB (L.getD k 0) := h.2
theorem Rd9.mk {I : HI} {L : List Int32} (c_n : I 59 13 = Int32.ofNat L.length) (c_at_ : ∀ k, k < L.length → I 66 k = phB (L.getD k 0)) : Rd9 I L := ⟨c_n, c_at_⟩
/-- what readings change -/
def RdF (I I' : HI) : Prop := ∀ a k, ¬ (a = 64 ∨ a = 65 ∨ a = 66 ∨ (a = 59 ∧ 9 ≤ k ∧ k ≤ 14)) → I' a k = I a k
theorem RdF.rf (I : HI) : RdF I I := fun _ _ _ => rfl
theorem RdF.tr {I I' I'' : HI} (h : RdF I I') (h2 : RdF I' I'') : RdF I I'' := fun a k q => (h2 a k q).trans (h a k q)
theorem RdF.row {I I' : HI} (h : RdF I I') {a : Nat} (ha : a ≠ 59 ∧ a ≠ 64 ∧ a ≠ 65 ∧ a ≠ 66) : I' a = I a := by
  funext k
  exact h a k (by omega)
theorem RdF.q {I I' : HI} {J : HJ} (h : RdF I I') : RQ I J I' J := ⟨fun a k q => h a k (by omega), fun _ _ => rfl⟩
theorem WkF.rd {I I' : HI} (h : WkF I I') : RdF I I' := fun a k q => h a k (by omega)
/-- what one letter more changes -/
def LtF (I I' : HI) : Prop := ∀ a k, ¬ (a = 66 ∨ (a = 59 ∧ 13 ≤ k ∧ k ≤ 14)) → I' a k = I a k
theorem LtF.rf (I : HI) : LtF I I := fun _ _ _ => rfl
theorem LtF.tr {I I' I'' : HI} (h : LtF I I') (h2 : LtF I' I'') : LtF I I'' := fun a k q => (h2 a k q).trans (h a k q)
theorem LtF.rd {I I' : HI} (h : LtF I I') : RdF I I' := fun a k q => h a k (by omega)
theorem WkI.lt {W H : Nat} {C : Cel} {I I' : HI} {g i : Nat} (h : WkI W H C I g i) (hf : LtF I I') : WkI W H C I' g i :=
  WkI.mk (by rw [hf 59 9 (by omega)]; exact h.st) (by rw [hf 59 11 (by omega)]; exact h.tn) (fun k hk => by rw [hf 64 k (by omega)]; exact h.pa k hk) (fun k hk => by rw [hf 65 k (by omega)]; exact h.ir k hk)
theorem Wk.lt {W H : Nat} {C : Cel} {I I' : HI} {g : Nat} (h : Wk W H C I g) (hf : LtF I I') : Wk W H C I' g := Wk.mk (h.wi.lt hf) (by rw [hf 59 10 (by omega)]; exact h.en)
section RDG
variable {d nn Ln : Nat} {fz : Bool} {K : Post} {I : HI} {J : HJ} {W H : Nat} {C : Cel} {g : Nat} {w : Wds} {L : List Int32}
theorem sp_reads {st : List Int32 × Bool} {l y : Int32} (hn : 74 ≤ nn) (hR : Rd9 I st.1) (hg : I 59 14 = b2 st.2) (hl : phB l = y) (hlen : (addL st l).1.length ≤ 400)
    (hK : ∀ I', LtF I I' → Rd9 I' (addL st l).1 → I' 59 14 = 0 → K (.inl none) (hp fz nn (lay Ln) I' J)) : cal (d + 1) 174 [.ref 59, .int y] (hp fz nn (lay Ln) I J) K := by
  refine call_in (Nat.le_of_ble_eq_true rfl) rfl rfl (r_174_0 hn ?_)
  rw [hg]
  unfold addL at hlen hK
  have one : ∀ L : List Int32, L = st.1 → L.length + 1 ≤ 400 → (∀ I', LtF I I' → Rd9 I' (L ++ [l]) → I' 59 14 = 0 → K (.inl none) (hp fz nn (lay Ln) I' J)) → vp_in (I 59 13) 400 ∧ K (.inl none) (hp fz nn (lay Ln) (w2 (w2 (w2 I 59 14 0) 66 ((I 59 13).toNatClampNeg) y) 59 13 ((I 59 13) + 1)) J) := by
    intro L hL h4 hK
    subst hL
    rw [hR.n, oN_clamp (by omega), oN_succ]
    refine ⟨oN_vin (by omega) (by decide), hK _ (fun a k hq => ?_) (Rd9.mk ?_ (fun k hk => ?_)) ?_⟩
    · rw [w2_at, if_neg (by omega), w2_at, if_neg (by omega), w2_at, if_neg (by omega)]
    · rw [w2_at, if_pos ⟨rfl, rfl⟩]; simp
    · rw [w2_ne _ _ (by decide), w2_at]
      by_cases e : k = st.1.length
      · subst e; rw [if_pos ⟨rfl, rfl⟩, gD_app2, hl]
      · have hk2 : k < st.1.length := by simp at hk; omega
        rw [if_neg (fun q => e q.2), w2_ne _ _ (by decide), gD_app1 _ _ hk2]
        exact hR.at_ k hk2
    · rw [w2_at, if_neg (by decide), w2_ne _ _ (by decide), w2_at, if_pos ⟨rfl, rfl⟩]
  refine b2c (fun e => ?_) (fun e => ?_)
  · rw [if_neg (fun q => by rw [e] at q; cases q.1)] at hlen hK
    exact one st.1 rfl (by simp at hlen; omega) hK
  · by_cases q : st.1 = []
    · rw [if_neg (fun z => z.2 q)] at hlen hK
      refine if_y ?_ (one st.1 rfl (by simp at hlen; omega) hK)
      rw [hR.n, q]; exact Int32.le_refl _
    · have hpos : 0 < st.1.length := List.length_pos_iff.mpr q
      rw [if_pos ⟨e, q⟩] at hlen hK
      have hlen2 : (st.1 ++ [32, l]).length = st.1.length + 2 := by simp
      have hlen : st.1.length + 2 ≤ 400 := by rw [← hlen2]; exact hlen
      refine if_n ?_ ?_
      · rw [hR.n]; exact le_n (b := 0) hpos (by omega)
      · rw [hR.n, oN_succ, oN_succ, oN_clamp (by omega), oN_clamp (by omega)]
        obtain ⟨g1, g2, g3⟩ := gD_2 st.1 32 l
        refine ⟨oN_vin (by omega) (by decide), oN_vin (by omega) (by decide), hK _ (fun a k hq => ?_) (Rd9.mk ?_ (fun k hk => ?_)) ?_⟩
        · rw [w2_at, if_neg (by omega), w2_at, if_neg (by omega), w2_at, if_neg (by omega), w2_at, if_neg (by omega), w2_at, if_neg (by omega)]
        · rw [w2_at, if_pos ⟨rfl, rfl⟩]
          show _ = Int32.ofNat (st.1 ++ [32, l]).length
          rw [hlen2]
        · have hk : k < st.1.length + 2 := by rw [← hlen2]; exact hk
          show _ = phB ((st.1 ++ [32, l]).getD k 0)
          rw [w2_ne _ _ (by decide), w2_at]
          by_cases e1 : k = st.1.length + 1
          · subst e1; rw [if_pos ⟨rfl, rfl⟩, g3, hl]
          · rw [if_neg (fun z => e1 z.2), w2_ne _ _ (by decide), w2_ne _ _ (by decide), w2_at]
            by_cases e2 : k = st.1.length
            · subst e2; rw [if_pos ⟨rfl, rfl⟩, g2]; rfl
            · rw [if_neg (fun z => e2 z.2), g1 k (by omega)]
              exact hR.at_ k (by omega)
        · rw [w2_at, if_neg (by decide), w2_ne _ _ (by decide), w2_at, if_pos ⟨rfl, rfl⟩]
theorem sp_readsFrom (hn : 74 ≤ nn) (hN : NowR I W H C) (hg : g < 2 * (W + H)) (hK : ∀ I', RdF I I' → Rd9 I' (rdg W H C g) → Wk W H C I' g → K (.inl none) (hp fz nn (lay Ln) I' J)) :
    cal (d + 4) 175 [.ref 59, .int (Int32.ofNat g)] (hp fz nn (lay Ln) I J) K := by
  have h49 := hN.n
  have hW := hN.W0
  have hH := hN.H0
  have hbn := bN_le (C := C) hW hH hg
  have lp : ∀ m i, i + m = bN W H C g → ∀ I1, RdF I I1 → Wk W H C I1 g → Rd9 I1 (rdW (fun i => C (pC W H C g i)) i).1 → I1 59 14 = b2 (rdW (fun i => C (pC W H C g i)) i).2 →
      EX (cal (d + 3)) 175 K 17 [some (.ref 59), none, some (.int (Int32.ofNat i)), none] [] (0, 0) (hp fz nn (lay Ln) I1 J) := by
    intro m
    induction m with
    | zero =>
      intro i hi I1 f1 k1 r1 g1
      obtain rfl : i = bN W H C g := hi
      exact r_175_17 hn (if_y (by rw [k1.wi.st]; exact Int32.le_refl _) (hK I1 f1 r1 k1))
    | succ m ih =>
      intro i hi I1 f1 k1 r1 g1
      have hN1 := hN.mono (f1.row (a := 60) (by decide))
      have hlen := rdW_len (fun i => C (pC W H C g i)) i
      have es : rdW (fun i => C (pC W H C g i)) (i + 1) = takeC (rdW (fun i => C (pC W H C g i)) i) (C (pC W H C g i)) := rfl
      have hpc := pC_lt (C := C) hW hH hg (show i < bN W H C g by omega)
      refine r_175_17 hn (if_n (by rw [k1.wi.st]; exact le_n (by omega) (by omega)) ⟨oN_vin (by omega) (by decide), ?_⟩)
      rw [oN_clamp (by omega), k1.wi.pa i (by omega)]
      refine sp_at9 (d := d + 2) hn hN1 hpc (kc_v rfl rfl (r_175_35 hn ?_))
      generalize hst : rdW (fun i => C (pC W H C g i)) i = st at *
      generalize C (pC W H C g i) = v at *
      have ih := ih (i + 1) (by omega)
      rw [es] at ih
      -- behind the gap's note
      have main : ∀ x : Int32, x = b2 (st.2 || decide (v = 58)) →
          if (f_X9_in v (65) (90)) = 0 then (if (f_X9_isRune v) = 0 then (EX (cal (d + 3)) 175 K 17 [some (.ref 59), none, some (.int (Int32.ofNat i + 1)), none] [] (0, 0) (hp fz nn (lay Ln) (w2 I1 59 14 x) J)) else (cal (d + 3) 174 [.ref 59, .int (v - 97)] (hp fz nn (lay Ln) (w2 I1 59 14 x) J) (KC (d + 3) 175 K 104 [some (.ref 59), none, some (.int (Int32.ofNat i)), some (.int v)] [] (0, 0) 174 (hp fz nn (lay Ln) (w2 I1 59 14 x) J)))) else (cal (d + 3) 174 [.ref 59, .int (v - 65)] (hp fz nn (lay Ln) (w2 I1 59 14 x) J) (KC (d + 3) 175 K 73 [some (.ref 59), none, some (.int (Int32.ofNat i)), some (.int v)] [] (0, 0) 174 (hp fz nn (lay Ln) (w2 I1 59 14 x) J))) := by
        intro x hx
        have fx : LtF I1 (w2 I1 59 14 x) := fun a k hq => by rw [w2_at, if_neg (by omega)]
        have rx : Rd9 (w2 I1 59 14 x) st.1 := Rd9.mk (by rw [w2_at, if_neg (by decide)]; exact r1.n) (fun k hk => by rw [w2_ne _ _ (by decide)]; exact r1.at_ k hk)
        have gx : (w2 I1 59 14 x) 59 14 = x := by rw [w2_at, if_pos ⟨rfl, rfl⟩]
        rw [f9_in, f9_rune]
        have e2 : wi v 65 90 = isSB v := rfl
        rw [e2]
        refine b2c (fun es => b2c (fun er => ?_) (fun er => ?_)) (fun es => ?_)
        · have el : isLB v = false := by unfold isRB at er; rw [Bool.or_eq_false_iff] at er; exact er.1
          have et : takeC st v = (st.1, st.2 || decide (v = 58)) := by
            unfold takeC
            rw [el, es, if_neg Bool.false_ne_true, if_neg Bool.false_ne_true]
            by_cases q : v = 58
            · rw [if_pos q, decide_eq_true q, Bool.or_true]
            · rw [if_neg q, decide_eq_false q, Bool.or_false]
          rw [et] at ih
          rw [oN_succ]
          exact ih _ (f1.tr fx.rd) (k1.lt fx) rx (by rw [gx]; exact hx)
        · have el : isLB v = true := by unfold isRB at er; rw [es, Bool.or_false] at er; exact er
          have et : takeC st v = addL st v := by unfold takeC; rw [el, if_pos rfl]
          rw [et] at ih
          have hx2 : x = b2 st.2 := by rw [hx, decide_eq_false (lb_58 el), Bool.or_false]
          have ha := addL_len st v
          refine sp_reads (d := d + 2) (st := st) (l := v) hn rx (by rw [gx]; exact hx2) (ph_lb el) (by omega) (fun I2 f2 r2 g2 => kc_0 rfl rfl (r_175_104 hn ?_))
          rw [oN_succ]
          exact ih I2 (f1.tr (fx.tr f2).rd) (k1.lt (fx.tr f2)) r2 (by rw [g2, ha.2.2]; rfl)
        · have el : isLB v = false := by
            cases q : isLB v with
            | false => rfl
            | true => rw [lb_sb q] at es; cases es
          obtain ⟨u1, u2⟩ := sb_up es
          have et : takeC st v = addL ((addL st (v - 65 + 97)).1, true) (v - 65 + 97) := by unfold takeC; rw [el, if_neg Bool.false_ne_true, es, if_pos rfl]
          rw [et] at ih
          have hx2 : x = b2 st.2 := by rw [hx, decide_eq_false (sb_58 es), Bool.or_false]
          have ha := addL_len st (v - 65 + 97)
          have hb := addL_len ((addL st (v - 65 + 97)).1, true) (v - 65 + 97)
          have hc : rlen ((addL st (v - 65 + 97)).1, true) = (addL st (v - 65 + 97)).1.length + 1 := rfl
          refine sp_reads (d := d + 2) (st := st) (l := v - 65 + 97) hn rx (by rw [gx]; exact hx2) u2 (by omega) (fun I2 f2 r2 g2 => kc_0 rfl rfl (r_175_73 hn ?_))
          have f3 : LtF I2 (w2 I2 59 14 1) := fun a k hq => by rw [w2_at, if_neg (by omega)]
          have r3 : Rd9 (w2 I2 59 14 1) (addL st (v - 65 + 97)).1 := Rd9.mk (by rw [w2_at, if_neg (by decide)]; exact r2.n) (fun k hk => by rw [w2_ne _ _ (by decide)]; exact r2.at_ k hk)
          refine sp_reads (d := d + 2) (st := ((addL st (v - 65 + 97)).1, true)) (l := v - 65 + 97) hn r3 (by rw [w2_at, if_pos ⟨rfl, rfl⟩]; rfl) u2 (by omega) (fun I4 f4 r4 g4 => kc_0 rfl rfl (r_175_86 hn ?_))
          rw [oN_succ]
          have f5 := ((fx.tr f2).tr f3).tr f4
          exact ih I4 (f1.tr f5.rd) (k1.lt f5) r4 (by rw [g4, hb.2.2]; rfl)
      rw [g1]
      refine b2c (fun e => if_c (fun e1 => main 1 (by rw [decide_eq_true e1, Bool.or_true]; rfl)) (fun e1 => main 0 (by rw [e, decide_eq_false e1]; rfl))) (fun e => main 1 (by rw [e, Bool.true_or]; rfl))
  refine call_in (Nat.le_of_ble_eq_true rfl) rfl rfl (r_175_0 hn (sp_walks (d := d + 1) hn hN hg (fun I1 f1 k1 => kc_0 rfl rfl (r_175_5 hn ?_))))
  have f2 : LtF I1 (w2 (w2 I1 59 13 0) 59 14 0) := fun a k hq => by rw [w2_at, if_neg (by omega), w2_at, if_neg (by omega)]
  exact lp _ 0 (Nat.zero_add _) _ (f1.rd.tr f2.rd) (k1.lt f2) (Rd9.mk rfl (fun k hk => absurd hk (Nat.not_lt_zero k))) rfl
/-- the words of the reference's list -/
def Ws9 (I : HI) (w : Wds) : Prop :=
  (I 60 51 = Int32.ofNat w.1) ∧
  (w.1 ≤ 8) ∧
  (∀ i, i < w.1 → I 60 (52 + 9 * i) = Int32.ofNat (w.2.1 i)) ∧
  (∀ i, i < w.1 → 1 ≤ w.2.1 i ∧ w.2.1 i ≤ 8) ∧
  (∀ i, i < w.1 → ∀ k, k < w.2.1 i → I 60 (53 + 9 * i + k) = w.2.2 i k - 97)
theorem Ws9.n {I : HI} {w : Wds} (h : Ws9 I w) : I 60 51 = Int32.ofNat w.1 := h.1
theorem Ws9.n8 {I : HI} {w : Wds} (h : Ws9 I w) : w.1 ≤ 8 := h.2.1
theorem Ws9.ln {I : HI} {w : Wds} (h : Ws9 I w) : ∀ i, i < w.1 → I 60 (52 + 9 * i) = Int32.ofNat (w.2.1 i) := h.2.2.1
theorem Ws9.l8 {I : HI} {w : Wds} (h : Ws9 I w) : ∀ i, i < w.1 → 1 ≤ w.2.1 i ∧ w.2.1 i ≤ 8 := h.2.2.2.1
theorem Ws9.lt {I : HI} {w : Wds} (h : Ws9 I w) : ∀ i, i < w.1 → ∀ k, k < w.2.1 i → I 60 (53 + 9 * i + k) = w.2.2 i k - 97 := h.2.2.2.2
theorem Ws9.mk {I : HI} {w : Wds} (c_n : I 60 51 = Int32.ofNat w.1) (c_n8 : w.1 ≤ 8) (c_ln : ∀ i, i < w.1 → I 60 (52 + 9 * i) = Int32.ofNat (w.2.1 i)) (c_l8 : ∀ i, i < w.1 → 1 ≤ w.2.1 i ∧ w.2.1 i ≤ 8) (c_lt : ∀ i, i < w.1 → ∀ k, k < w.2.1 i → I 60 (53 + 9 * i + k) = w.2.2 i k - 97) : Ws9 I w := ⟨c_n, c_n8, c_ln, c_l8, c_lt⟩
theorem Ws9.mono {I' : HI} (h : Ws9 I w) (e : I' 60 = I 60) : Ws9 I' w := Ws9.mk (by rw [e]; exact h.n) h.n8 (by rw [e]; exact h.ln) h.l8 (by rw [e]; exact h.lt)
theorem RfS.ws {hs : List Sav} {t : Nat} {T : Nat → Int32} (h : RfS I W H C w hs t T) : Ws9 I w :=
  Ws9.mk (by have := h.row.n; rw [Nat.zero_add] at this; exact this) h.row.n8 (fun i hi => by have := h.row.ln i hi; rw [Nat.zero_add] at this; exact this) h.row.l8 (fun i hi k hk => by have := h.row.lt i hi k hk; rw [Nat.zero_add] at this; exact this)
theorem sp_isListed {s e : Nat} (hn : 74 ≤ nn) (hw : Ws9 I w) (hL : Rd9 I L) (hl : L.length ≤ 294) (hse : s ≤ e) (he : e ≤ L.length) (hlb : ∀ k, s ≤ k → k < e → isLB (L.getD k 0) = true)
    (hK : K (.inl (some (.int (b2 (inW w (fun k => L.getD k 0) s (e - s)))))) (hp fz nn (lay Ln) I J)) : cal (d + 1) 177 [.ref 59, .int (Int32.ofNat s), .int (Int32.ofNat e)] (hp fz nn (lay Ln) I J) K := by
  have hn8 := hw.n8
  have m9 : ∀ i : Nat, (9 : Int32) * Int32.ofNat i = Int32.ofNat (9 * i) := fun i => oN_mul 9 i
  have a52 : ∀ i : Nat, (52 : Int32) + Int32.ofNat i = Int32.ofNat (52 + i) := fun i => oN_add 52 i
  have lp2 : ∀ i, i < w.1 → w.2.1 i = e - s → EX (cal d) 177 K 2 [some (.ref 59), some (.int (Int32.ofNat s)), some (.int (Int32.ofNat e)), some (.int (Int32.ofNat (i + 1))), none, none] [] (0, 0) (hp fz nn (lay Ln) I J) ∨ wEq w (fun k => L.getD k 0) s (e - s) i = true →
      (wEq w (fun k => L.getD k 0) s (e - s) i = false → EX (cal d) 177 K 2 [some (.ref 59), some (.int (Int32.ofNat s)), some (.int (Int32.ofNat e)), some (.int (Int32.ofNat (i + 1))), none, none] [] (0, 0) (hp fz nn (lay Ln) I J)) →
      (wEq w (fun k => L.getD k 0) s (e - s) i = true → K (.inl (some (.int 1))) (hp fz nn (lay Ln) I J)) →
      ∀ m k, k + m = e → s ≤ k → (∀ j, j < k - s → w.2.2 i j = L.getD (s + j) 0) → EX (cal d) 177 K 41 [some (.ref 59), some (.int (Int32.ofNat s)), some (.int (Int32.ofNat e)), some (.int (Int32.ofNat i)), some (.int 1), some (.int (Int32.ofNat k))] [] (0, 0) (hp fz nn (lay Ln) I J) := by
    intro i hi hwl _ hno hyes m
    have h8 := hw.l8 i hi
    induction m with
    | zero =>
      intro k hk hsk hall
      obtain rfl : k = e := hk
      refine r_177_41 hn (if_y (Int32.le_refl _) (if_n (by decide) (hyes ?_)))
      unfold wEq
      rw [decide_eq_true hwl, Bool.true_and, allB_iff]
      intro j hj
      exact decide_eq_true (hall j (by omega))
    | succ m ih =>
      intro k hk hsk hall
      refine r_177_41 hn (if_n (le_n (by omega) (by omega)) (if_n (by decide) ?_))
      have e1 : (52 : Int32) + 9 * Int32.ofNat i + 1 + Int32.ofNat k - Int32.ofNat s = Int32.ofNat (53 + 9 * i + (k - s)) := by
        rw [m9, a52, oN_succ, oN_add, oN_sub (by omega)]
        congr 1
        omega
      rw [e1, oN_clamp (by omega), oN_clamp (by omega), oN_succ, hw.lt i hi (k - s) (by omega), hL.at_ k (by omega), ph_lb (hlb k hsk (by omega))]
      refine ⟨oN_vin (by omega) (by decide), oN_vin (by omega) (by decide), if_c (fun q => ?_) (fun q => ?_)⟩
      · have q := sub97.mp q
        refine ih (k + 1) (by omega) (by omega) (fun j hj => ?_)
        by_cases z : j = k - s
        · subst z; rw [q]; congr 1; omega
        · exact hall j (by omega)
      · have hf : wEq w (fun k => L.getD k 0) s (e - s) i = false := by
          unfold wEq
          rw [allB_no (p := fun j => decide (w.2.2 i j = L.getD (s + j) 0)) (i := k - s) (by omega) (decide_eq_false (fun z => q (by rw [z, show s + (k - s) = k by omega]))), Bool.and_false]
        refine r_177_41 hn (if_c (fun _ => if_y rfl ?_) (fun _ => if_y rfl ?_))
        · rw [oN_succ]; exact hno hf
        · rw [oN_succ]; exact hno hf
  have lp : ∀ m i, i + m = w.1 → (∀ j, j < i → wEq w (fun k => L.getD k 0) s (e - s) j = false) → EX (cal d) 177 K 2 [some (.ref 59), some (.int (Int32.ofNat s)), some (.int (Int32.ofNat e)), some (.int (Int32.ofNat i)), none, none] [] (0, 0) (hp fz nn (lay Ln) I J) := by
    intro m
    induction m with
    | zero =>
      intro i hi hno
      obtain rfl : i = w.1 := hi
      refine r_177_2 hn (if_y (by rw [hw.n]; exact Int32.le_refl _) ?_)
      have : inW w (fun k => L.getD k 0) s (e - s) = false := by
        unfold inW
        cases q : anyB (wEq w (fun k => L.getD k 0) s (e - s)) w.1 with
        | false => rfl
        | true =>
          obtain ⟨j, h1, h2⟩ := anyB_iff.mp q
          rw [hno j h1] at h2; cases h2
      rw [this] at hK
      exact hK
    | succ m ih =>
      intro i hi hno
      have hi' : i < w.1 := by omega
      have h8 := hw.l8 i hi'
      have next : wEq w (fun k => L.getD k 0) s (e - s) i = false → EX (cal d) 177 K 2 [some (.ref 59), some (.int (Int32.ofNat s)), some (.int (Int32.ofNat e)), some (.int (Int32.ofNat (i + 1))), none, none] [] (0, 0) (hp fz nn (lay Ln) I J) := fun q => ih (i + 1) (by omega) (fun j hj => by
        by_cases z : j = i
        · subst z; exact q
        · exact hno j (by omega))
      refine r_177_2 hn (if_n (by rw [hw.n]; exact le_n (by omega) (by omega)) ?_)
      rw [m9, a52, oN_clamp (by omega), hw.ln i hi', oN_sub hse]
      refine ⟨oN_vin (by omega) (by decide), if_c (fun q => ?_) (fun q => ?_)⟩
      · have q := (oN_eq (by omega) (by omega)).mp q
        cases z : wEq w (fun k => L.getD k 0) s (e - s) i with
        | true =>
          refine lp2 i hi' q (Or.inr z) (fun h => by rw [z] at h; cases h) (fun _ => ?_) (e - s) s (by omega) (Nat.le_refl _) (fun j hj => absurd hj (by omega))
          have : inW w (fun k => L.getD k 0) s (e - s) = true := by unfold inW; exact anyB_iff.mpr ⟨i, hi', z⟩
          rw [this] at hK
          exact hK
        | false => exact lp2 i hi' q (Or.inl (next z)) (fun _ => next z) (fun h => by rw [z] at h; cases h) (e - s) s (by omega) (Nat.le_refl _) (fun j hj => absurd hj (by omega))
      · have hf : wEq w (fun k => L.getD k 0) s (e - s) i = false := by
          unfold wEq
          rw [decide_eq_false (fun z => q (by rw [z])), Bool.false_and]
        refine r_177_41 hn (if_c (fun _ => if_y rfl ?_) (fun _ => if_y rfl ?_))
        · rw [oN_succ]; exact next hf
        · rw [oN_succ]; exact next hf
  exact call_in (Nat.le_of_ble_eq_true rfl) rfl rfl (r_177_0 hn (lp _ 0 (Nat.zero_add _) (fun j h => absurd h (Nat.not_lt_zero j))))
end RDG
