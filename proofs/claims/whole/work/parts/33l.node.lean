/-! ===== a node of the reference's search, and all from there ===== -/
theorem bt_not (x : Int64) {c : Nat} (hc : c < 64) : bt (x ^^^ (-1)) c = !bt x c := by
  unfold bt
  have h1 : (-1 : Int64).toBitVec = BitVec.allOnes 64 := by decide
  rw [Int64.toBitVec_xor, BitVec.getLsbD_xor, h1, BitVec.getLsbD_allOnes]
  simp [hc]
theorem opn_0 {all cov : Int64} (h : cov &&& all = cov) : opn all cov = 0 ↔ cov = all := by
  constructor
  · intro e
    apply bt_ext
    intro c hc
    have h1 := congrArg (fun x => bt x c) h
    have h2 := congrArg (fun x => bt x c) e
    simp only [opn, bt_and, bt_not _ hc, bt_zero] at h1 h2
    cases ha : bt all c <;> cases hb : bt cov c <;> simp_all
  · rintro rfl
    apply bt_ext
    intro c hc
    simp only [opn, bt_and, bt_not _ hc, bt_zero]
    cases bt cov c <;> rfl
theorem and_or_l {m a b : Int64} (h : m &&& a = m) : m &&& (a ||| b) = m := by
  apply bt_ext
  intro c _
  have h1 := congrArg (fun x => bt x c) h
  simp only [bt_and, bt_or] at h1 ⊢
  cases hm : bt m c <;> cases ha : bt a c <;> rw [hm, ha] at h1 <;> first | rfl | cases h1 | simp
theorem and_or_r {m a : Int64} : m &&& (a ||| m) = m := by
  apply bt_ext
  intro c _
  simp only [bt_and, bt_or]
  cases bt m c <;> cases bt a c <;> rfl
theorem or_sub {m a b : Int64} (h : a &&& m = a) (h2 : b &&& m = b) : (a ||| b) &&& m = a ||| b := by
  apply bt_ext
  intro c _
  have h1 := congrArg (fun x => bt x c) h
  have h3 := congrArg (fun x => bt x c) h2
  simp only [bt_and, bt_or] at h1 h3 ⊢
  cases hm : bt m c <;> cases ha : bt a c <;> cases hb : bt b c <;> simp_all
/-- bands that were chosen, the runes that they cover -/
def Gd9 (W H : Nat) (C : Cel) (p : List Int32) (cov : Int64) : Prop :=
  (∀ i, i < p.length → ∃ g, g < 28 ∧ p.getD i 0 = Int32.ofNat g) ∧
  (∀ i, i < p.length → mkS W H C (p.getD i 0) &&& cov = mkS W H C (p.getD i 0)) ∧
  (∀ i j, i < p.length → j < p.length → p.getD i 0 = p.getD j 0 → i = j) ∧
  (cov &&& rmask C (W * H) = cov)
theorem Gd9.g {W H : Nat} {C : Cel} {p : List Int32} {cov : Int64} (h : Gd9 W H C p cov) : ∀ i, i < p.length → ∃ g, g < 28 ∧ p.getD i 0 = Int32.ofNat g := h.1
theorem Gd9.c {W H : Nat} {C : Cel} {p : List Int32} {cov : Int64} (h : Gd9 W H C p cov) : ∀ i, i < p.length → mkS W H C (p.getD i 0) &&& cov = mkS W H C (p.getD i 0) := h.2.1
theorem Gd9.i {W H : Nat} {C : Cel} {p : List Int32} {cov : Int64} (h : Gd9 W H C p cov) : ∀ i j, i < p.length → j < p.length → p.getD i 0 = p.getD j 0 → i = j := h.2.2.1
theorem Gd9.s {W H : Nat} {C : Cel} {p : List Int32} {cov : Int64} (h : Gd9 W H C p cov) : cov &&& rmask C (W * H) = cov := h.2.2.2
theorem Gd9.mk {W H : Nat} {C : Cel} {p : List Int32} {cov : Int64} (c_g : ∀ i, i < p.length → ∃ g, g < 28 ∧ p.getD i 0 = Int32.ofNat g) (c_c : ∀ i, i < p.length → mkS W H C (p.getD i 0) &&& cov = mkS W H C (p.getD i 0)) (c_i : ∀ i j, i < p.length → j < p.length → p.getD i 0 = p.getD j 0 → i = j) (c_s : cov &&& rmask C (W * H) = cov) : Gd9 W H C p cov := ⟨c_g, c_c, c_i, c_s⟩
section GD9
variable {W H : Nat} {C : Cel}
theorem Gd9.len {p : List Int32} {cov : Int64} (h : Gd9 W H C p cov) : p.length ≤ 28 := by
  refine php 28 p.length (fun i => (p.getD i 0).toNatClampNeg) (fun i hi => ?_) (fun i hi j hj e => ?_)
  · obtain ⟨g, h1, h2⟩ := h.g i hi
    show (p.getD i 0).toNatClampNeg < 28
    rw [h2, oN_clamp (by omega)]; exact h1
  · obtain ⟨g, h1, h2⟩ := h.g i hi
    obtain ⟨g', k1, k2⟩ := h.g j hj
    have e : (p.getD i 0).toNatClampNeg = (p.getD j 0).toNatClampNeg := e
    refine h.i i j hi hj ?_
    rw [h2, k2] at e ⊢
    rw [oN_clamp (by omega), oN_clamp (by omega)] at e
    rw [e]
theorem mk_sub {b : Int32} : mkS W H C b &&& rmask C (W * H) = mkS W H C b := by
  by_cases h : mkS W H C b = 0
  · rw [h]; exact Int64.zero_and
  · obtain ⟨g, h1, h2, h3⟩ := mkS_ne h
    rw [h3] at h ⊢
    obtain ⟨-, -, -, h4⟩ := mkG_ne h
    rw [h4]
    apply bt_ext
    intro c _
    simp only [bt_and]
    cases bt (rmask C (W * H)) c <;> cases bt (orB (pC W H C g) (bN W H C g)) c <;> rfl
theorem Gd9.push {p : List Int32} {cov : Int64} {b : Int32} {c : Nat} (h : Gd9 W H C p cov) (hok : okS (mkS W H C) cov c b = true) : Gd9 W H C (p ++ [b]) (cov ||| mkS W H C b) := by
  unfold okS at hok
  rw [Bool.and_eq_true] at hok
  have hne := bt_n0 hok.1
  have hdis := decide_eq_true_iff.mp hok.2
  have hlen : (p ++ [b]).length = p.length + 1 := by simp
  obtain ⟨g0, q1, q2, -⟩ := mkS_ne hne
  have new : ∀ i, i < p.length → p.getD i 0 ≠ b := by
    intro i hi e
    have := h.c i hi
    rw [e, hdis] at this
    exact hne this.symm
  refine Gd9.mk (fun i hi => ?_) (fun i hi => ?_) (fun i j hi hj e => ?_) (or_sub h.s mk_sub)
  · rw [hlen] at hi
    by_cases y : i = p.length
    · subst y; rw [gD_app2]; exact ⟨g0, q1, q2⟩
    · rw [gD_app1 _ _ (by omega)]; exact h.g i (by omega)
  · rw [hlen] at hi
    by_cases y : i = p.length
    · subst y; rw [gD_app2]; exact and_or_r
    · rw [gD_app1 _ _ (by omega)]; exact and_or_l (h.c i (by omega))
  · rw [hlen] at hi hj
    by_cases y : i = p.length
    · by_cases z : j = p.length
      · rw [y, z]
      · subst y
        rw [gD_app2, gD_app1 _ _ (show j < p.length by omega)] at e
        exact absurd e.symm (new j (by omega))
    · by_cases z : j = p.length
      · subst z
        rw [gD_app2, gD_app1 _ _ (show i < p.length by omega)] at e
        exact absurd e (new i (by omega))
      · rw [gD_app1 _ _ (show i < p.length by omega), gD_app1 _ _ (show j < p.length by omega)] at e
        exact h.i i j (by omega) (by omega) e
end GD9
theorem Ly9.mono {W H : Nat} {C : Cel} {I I' : HI} {J J' : HJ} {G D : Nat} (h : Ly9 W H C I J G) (hf : ScF D I J I' J') : Ly9 W H C I' J' G :=
  Ly9.mk (by rw [hf.1 59 18 (by omega)]; exact h.n) (fun k hk => by rw [hf.1 68 k (by omega)]; exact h.b k hk) (fun k hk => by rw [hf.2 69 k (by omega)]; exact h.m k hk)
theorem R9.mono {I I' : HI} {s : SR} (h : R9 I s) (hf : ∀ a k, ((a = 59 ∧ (k = 23 ∨ k = 25 ∨ k = 27 ∨ k = 28)) ∨ a = 73) → I' a k = I a k) : R9 I' s :=
  R9.mk (by rw [hf 59 23 (by omega)]; exact h.lk) (by rw [hf 59 25 (by omega)]; exact h.fd) (by rw [hf 59 27 (by omega)]; exact h.sz) (by rw [hf 59 28 (by omega)]; exact h.sm) (fun k hk => by rw [hf 73 k (by omega)]; exact h.fs k hk)
section NOD
variable {d nn Ln : Nat} {fz : Bool} {K : Post} {W H : Nat} {C : Cel} {most : Nat}
theorem sp_begins {I : HI} {J : HJ} {s : SR} {p : List Int32} {cov : Int64} {m : Nat} (hn : 74 ≤ nn) (hR : R9 I s) (hS : Stk I p) (hg : Gd9 W H C p cov) (ho : okN50 most s) (hf : sFd s < most) (hm : most ≤ 50) (hD : I 59 22 = Int32.ofNat p.length) (hc : J 70 p.length = cov) (hall : J 59 29 = rmask C (W * H)) (hb : I 59 18 = Int32.ofNat m)
    (h1 : sLk s = 2000 → ∀ I', ScF p.length I J I' J → R9 I' (stopS s) → I' 59 24 = 1 → K (.inl none) (hp fz nn (lay Ln) I' J))
    (h2 : sLk s ≠ 2000 → opn (rmask C (W * H)) cov = 0 → ∀ I', ScF p.length I J I' J → R9 I' (keepS p (nodeS s)) → I' 59 24 = 0 → I' 59 22 = Int32.ofNat p.length → I' 72 p.length = Int32.ofNat m → K (.inl none) (hp fz nn (lay Ln) I' J))
    (h3 : sLk s ≠ 2000 → opn (rmask C (W * H)) cov ≠ 0 → ∀ I', ScF p.length I J I' J → R9 I' (nodeS s) → I' 59 24 = 0 → I' 59 22 = Int32.ofNat p.length → I' 72 p.length = -1 → I' 71 p.length = Int32.ofNat (lowb (opn (rmask C (W * H)) cov)) → K (.inl none) (hp fz nn (lay Ln) I' J)) :
    cal (d + 2) 184 [.ref 59] (hp fz nn (lay Ln) I J) K := by
  have hl := hg.len
  have o1 := ho.1
  refine call_in (Nat.le_of_ble_eq_true rfl) rfl rfl (r_184_0 hn ?_)
  rw [hR.lk, hD, oN_clamp (by omega), hc, hall]
  refine if_c (fun e => ?_) (fun e => ⟨oN_vin (by omega) (by decide), ?_⟩)
  · have e := (oN_eq (b := 2000) (by omega) (by decide)).mp e
    refine h1 e _ ⟨fun a k hq => by rw [w2_at, if_neg (by omega)], fun _ _ _ => rfl⟩ (hR.mono (fun a k hq => by rw [w2_at, if_neg (by omega)])) (by rw [w2_at, if_pos ⟨rfl, rfl⟩])
  · have e : sLk s ≠ 2000 := fun z => e (by rw [z]; rfl)
    rw [oN_succ]
    generalize hI1 : w2 (w2 (w2 (w2 I 59 24 0) 59 23 (Int32.ofNat (sLk s + 1))) 72 p.length (-1)) 71 p.length 0 = I1
    have f1 : ∀ a k, ¬ ((a = 59 ∧ (k = 23 ∨ k = 24)) ∨ ((a = 71 ∨ a = 72) ∧ k = p.length)) → I1 a k = I a k := fun a k hq => by
      rw [← hI1, w2_at, if_neg (by omega), w2_at, if_neg (by omega), w2_at, if_neg (by omega), w2_at, if_neg (by omega)]
    have fS : ScF p.length I J I1 J := ⟨fun a k hq => f1 a k (by omega), fun _ _ _ => rfl⟩
    have g24 : I1 59 24 = 0 := by rw [← hI1, w2_ne _ _ (by decide), w2_ne _ _ (by decide), w2_at, if_neg (by decide), w2_at, if_pos ⟨rfl, rfl⟩]
    have g23 : I1 59 23 = Int32.ofNat (sLk s + 1) := by rw [← hI1, w2_ne _ _ (by decide), w2_ne _ _ (by decide), w2_at, if_pos ⟨rfl, rfl⟩]
    have g22 : I1 59 22 = Int32.ofNat p.length := by rw [f1 59 22 (by omega)]; exact hD
    have g72 : I1 72 p.length = -1 := by rw [← hI1, w2_ne _ _ (by decide), w2_at, if_pos ⟨rfl, rfl⟩]
    have g71 : I1 71 p.length = 0 := by rw [← hI1, w2_at, if_pos ⟨rfl, rfl⟩]
    have r1 : R9 I1 (nodeS s) := R9.mk g23 (by rw [f1 59 25 (by omega)]; exact hR.fd) (by rw [f1 59 27 (by omega)]; exact hR.sz) (by rw [f1 59 28 (by omega)]; exact hR.sm) (fun k hk => by rw [f1 73 k (by omega)]; exact hR.fs k hk)
    refine if_c (fun e1 => ?_) (fun e1 => ?_)
    · have e1 := (opn_0 hg.s).mpr ((cmp1 _ _).mp e1)
      refine sp_finds (d := d) (most := most) hn r1 (hS.mono fS (Nat.le_refl _)) hl (nodeS_ok ho e) hm g22 (fun I2 f2 r2 => kc_0 rfl rfl (r_184_78 hn ?_))
      rw [f2 59 22 (by omega), g22, oN_clamp (by omega), f2 59 18 (by omega), f1 59 18 (by omega), hb]
      refine ⟨oN_vin (by omega) (by decide), h2 e e1 _ ⟨fun a k hq => ?_, fun _ _ _ => rfl⟩ (r2.mono (fun a k hq => by rw [w2_at, if_neg (by omega)])) ?_ ?_ ?_⟩
      · rw [w2_at, if_neg (by omega), f2 a k (by omega)]; exact f1 a k (by omega)
      · rw [w2_ne _ _ (by decide), f2 59 24 (by omega)]; exact g24
      · rw [w2_ne _ _ (by decide), f2 59 22 (by omega)]; exact g22
      · rw [w2_at, if_pos ⟨rfl, rfl⟩]
    · have e1 : opn (rmask C (W * H)) cov ≠ 0 := fun z => e1 ((cmp1 _ _).mpr ((opn_0 hg.s).mp z))
      have hlt := lowb_lt e1
      have hlo : ∀ j, j < lowb (opn (rmask C (W * H)) cov) → bt (opn (rmask C (W * H)) cov) j = false := fun j hj => fstI_lo hj
      have hat := lowb_at e1
      generalize lowb (opn (rmask C (W * H)) cov) = c at *
      have lp : ∀ q k, k + q = c → ∀ I2, (∀ a j, ¬ (a = 71 ∧ j = p.length) → I2 a j = I1 a j) → I2 71 p.length = Int32.ofNat k → EX (cal (d + 1)) 184 K 92 [some (.ref 59)] [] (0, 0) (hp fz nn (lay Ln) I2 J) := by
        intro q
        have fin : ∀ k, k ≤ c → ∀ I2, (∀ a j, ¬ (a = 71 ∧ j = p.length) → I2 a j = I1 a j) → I2 71 p.length = Int32.ofNat k → (bt (opn (rmask C (W * H)) cov) k = false → EX (cal (d + 1)) 184 K 92 [some (.ref 59)] [] (0, 0) (hp fz nn (lay Ln) (w2 I2 71 p.length (Int32.ofNat (k + 1))) J)) → (bt (opn (rmask C (W * H)) cov) k = true → K (.inl none) (hp fz nn (lay Ln) I2 J)) → EX (cal (d + 1)) 184 K 92 [some (.ref 59)] [] (0, 0) (hp fz nn (lay Ln) I2 J) := by
          intro k hk I2 f2 c2 hno hyes
          refine r_184_92 hn ?_
          rw [f2 59 22 (by omega), g22, oN_clamp (by omega), hc, hall, c2, oN_succ]
          refine ⟨oN_vin (by omega) (by decide), if_c (fun z => hno ?_) (fun z => hyes ?_)⟩
          · exact (bit_at _ (show k < 64 by omega)).mp ((cmp0 _).mp z)
          · cases y : bt (opn (rmask C (W * H)) cov) k with
            | true => rfl
            | false => exact absurd ((cmp0 _).mpr ((bit_at _ (show k < 64 by omega)).mpr y)) z
        induction q with
        | zero =>
          intro k hk I2 f2 c2
          obtain rfl : k = c := hk
          refine fin _ (Nat.le_refl _) I2 f2 c2 (fun z => by rw [hat] at z; cases z) (fun _ => ?_)
          refine h3 e e1 I2 ⟨fun a k hq => by rw [f2 a k (by omega)]; exact f1 a k (by omega), fun _ _ _ => rfl⟩ (r1.mono (fun a k hq => f2 a k (by omega))) ?_ ?_ ?_ c2
          · rw [f2 59 24 (by omega)]; exact g24
          · rw [f2 59 22 (by omega)]; exact g22
          · rw [f2 72 p.length (by omega)]; exact g72
        | succ q ih =>
          intro k hk I2 f2 c2
          refine fin k (by omega) I2 f2 c2 (fun _ => ih (k + 1) (by omega) _ (fun a j hq => by rw [w2_at, if_neg hq]; exact f2 a j hq) (by rw [w2_at, if_pos ⟨rfl, rfl⟩])) (fun z => ?_)
          rw [hlo k (by omega)] at z
          cases z
      exact lp _ 0 (Nat.zero_add _) I1 (fun _ _ _ => rfl) g71
/-- at the head of the search's loop -/
def HEAD (d nn Ln : Nat) (fz : Bool) (most : Nat) (Q : Post) (I : HI) (J : HJ) : Prop := EX (cal (d + 2)) 185 Q 40 [some (.ref 59), some (.int (Int32.ofNat most)), none, none] [] (0, 0) (hp fz nn (lay Ln) I J)
theorem lp_node (hn : 74 ≤ nn) (hm : most ≤ 50) {Q : Post} {G : Nat} (hG : G ≤ 28) : ∀ (n : Nat) (p : List Int32) (cov : Int64) (s : SR) (I : HI) (J : HJ) (K : Post), p.length + n = 29 → R9 I s → Stk I p → Gd9 W H C p cov → okN50 most s → sFd s < most → I 59 22 = Int32.ofNat p.length → J 70 p.length = cov → J 59 29 = rmask C (W * H) → Ly9 W H C I J G →
    (∀ I' J', HEAD d nn Ln fz most Q I' J' → K (.inl none) (hp fz nn (lay Ln) I' J')) →
    (∀ I' J', ScF p.length I J I' J' → R9 I' (lookS (rmask C (W * H)) (mkS W H C) (fun _ => usb W H C G) most n p cov s) → I' 59 24 = b2 (sSt (lookS (rmask C (W * H)) (mkS W H C) (fun _ => usb W H C G) most n p cov s)) → (ovS most (lookS (rmask C (W * H)) (mkS W H C) (fun _ => usb W H C G) most n p cov s) = true ∨ I' 59 22 = Int32.ofNat p.length - 1) → HEAD d nn Ln fz most Q I' J') →
    sSt s = false → cal (d + 2) 184 [.ref 59] (hp fz nn (lay Ln) I J) K := by
  intro n
  induction n with
  | zero =>
    intro p cov s I J K hl _ _ hg
    have := hg.len
    omega
  | succ n ih =>
    intro p cov s I J K hl hR hS hg ho hf hD hc hall hL hcall hfin hst
    have hpl := hg.len
    have hub := usb_len (W := W) (H := H) (C := C) (G := G)
    refine sp_begins (d := d) (most := most) hn hR hS hg ho hf hm hD hc hall hL.n (fun e I' fS r z24 => hcall I' J ?_) (fun e e1 I' fS r z24 z22 z72 => hcall I' J ?_) (fun e e1 I' fS r z24 z22 z72 z71 => hcall I' J ?_)
    · -- too many nodes
      have es : lookS (rmask C (W * H)) (mkS W H C) (fun _ => usb W H C G) most (n + 1) p cov s = stopS s := by
        unfold lookS; rw [if_pos e]
      rw [es] at hfin
      exact hfin I' J fS r z24 (Or.inl rfl)
    · -- a choice
      have es : lookS (rmask C (W * H)) (mkS W H C) (fun _ => usb W H C G) most (n + 1) p cov s = keepS p (nodeS s) := by
        unfold lookS; rw [if_neg e, if_pos e1]
      rw [es] at hfin
      have hs2 : sSt (keepS p (nodeS s)) = false := hst
      cases hov : ovS most (keepS p (nodeS s)) with
      | true => exact hfin I' J fS r (by rw [hs2]; exact z24) (Or.inl hov)
      | false =>
        have hk := keepS_ok (p := p) (nodeS_ok ho e) hf hpl
        have hlt : sFd (keepS p (nodeS s)) < most := by
          have h1 := hk.2.1
          have h2 : ¬ sFd (keepS p (nodeS s)) = most := fun z => by unfold ovS at hov; rw [decide_eq_true z, Bool.or_true] at hov; cases hov
          omega
        refine r_185_40 hn ?_
        have et : (w2 I' 72 p.length (I' 72 p.length + 1)) 72 p.length = Int32.ofNat ((usb W H C G).length + 1) := by rw [w2_at, if_pos ⟨rfl, rfl⟩, z72, oN_succ]
        rw [z22, z24, oN_clamp (by omega), et, r.fd, (hL.mono fS).n]
        refine if_n (oN_nneg (by omega)) (if_y rfl (if_n (le_n hlt (by omega)) ⟨oN_vin (by omega) (by decide), if_n (lt_n (by omega) (by omega)) ?_⟩))
        have f2 : ScF p.length I' J (w2 (w2 I' 72 p.length (I' 72 p.length + 1)) 59 22 (Int32.ofNat p.length - 1)) J := ⟨fun a k hq => by rw [w2_at, if_neg (by omega), w2_at, if_neg (by omega)], fun _ _ _ => rfl⟩
        exact hfin _ J (fS.tr f2) (r.mono (fun a k hq => by rw [w2_at, if_neg (by omega), w2_at, if_neg (by omega)])) (by rw [hs2, w2_at, if_neg (by decide), w2_ne _ _ (by decide)]; exact z24) (Or.inr (by rw [w2_at, if_pos ⟨rfl, rfl⟩]))
    · -- the bands one after the other
      have es : lookS (rmask C (W * H)) (mkS W H C) (fun _ => usb W H C G) most (n + 1) p cov s = foldC most (okS (mkS W H C) cov (lowb (opn (rmask C (W * H)) cov))) (fun g s => lookS (rmask C (W * H)) (mkS W H C) (fun _ => usb W H C G) most n (p ++ [g]) (cov ||| mkS W H C g) s) (usb W H C G) (nodeS s) := by
        show (if sLk s = 2000 then _ else _) = _
        rw [if_neg e, if_neg e1]
      rw [es] at hfin
      have hlt64 := lowb_lt e1
      generalize hcc : lowb (opn (rmask C (W * H)) cov) = c at *
      have hN := nodeS_ok ho e
      have hF : ∀ g s, okS (mkS W H C) cov c g = true → okN50 most s → sFd s < most → okN50 most (lookS (rmask C (W * H)) (mkS W H C) (fun _ => usb W H C G) most n (p ++ [g]) (cov ||| mkS W H C g) s) := fun g s _ h1 h2 => lookS_ok n _ _ _ (by rw [List.length_append]; simp; omega) h1 h2
      have lp : ∀ m q, q + m = (usb W H C G).length → ∀ (s' : SR) (I2 : HI) (J2 : HJ), ScF p.length I J I2 J2 → R9 I2 s' → I2 59 24 = b2 (sSt s') → (ovS most s' = true ∨ (I2 59 22 = Int32.ofNat p.length ∧ I2 72 p.length = Int32.ofNat q - 1 ∧ I2 71 p.length = Int32.ofNat c)) → okN50 most s' →
          foldC most (okS (mkS W H C) cov c) (fun g s => lookS (rmask C (W * H)) (mkS W H C) (fun _ => usb W H C G) most n (p ++ [g]) (cov ||| mkS W H C g) s) ((usb W H C G).drop q) s' = foldC most (okS (mkS W H C) cov c) (fun g s => lookS (rmask C (W * H)) (mkS W H C) (fun _ => usb W H C G) most n (p ++ [g]) (cov ||| mkS W H C g) s) (usb W H C G) (nodeS s) →
          HEAD d nn Ln fz most Q I2 J2 := by
        intro m
        -- over: all is said
        have over : ∀ (q : Nat) (s' : SR) (I2 : HI) (J2 : HJ), ScF p.length I J I2 J2 → R9 I2 s' → I2 59 24 = b2 (sSt s') → ovS most s' = true →
            foldC most (okS (mkS W H C) cov c) (fun g s => lookS (rmask C (W * H)) (mkS W H C) (fun _ => usb W H C G) most n (p ++ [g]) (cov ||| mkS W H C g) s) ((usb W H C G).drop q) s' = foldC most (okS (mkS W H C) cov c) (fun g s => lookS (rmask C (W * H)) (mkS W H C) (fun _ => usb W H C G) most n (p ++ [g]) (cov ||| mkS W H C g) s) (usb W H C G) (nodeS s) →
            HEAD d nn Ln fz most Q I2 J2 := by
          intro q s' I2 J2 f2 r2 y24 hov heq
          rw [foldC_ov hov] at heq
          rw [← heq] at hfin
          exact hfin I2 J2 f2 r2 y24 (Or.inl hov)
        induction m with
        | zero =>
          intro q hq s' I2 J2 f2 r2 y24 hor ho' heq
          cases hov : ovS most s' with
          | true => exact over q s' I2 J2 f2 r2 y24 hov heq
          | false =>
            obtain ⟨y22, y72, y71⟩ := hor.resolve_left (by rw [hov]; exact Bool.false_ne_true)
            have hst' : sSt s' = false := by unfold ovS at hov; rw [Bool.or_eq_false_iff] at hov; exact hov.1
            have hlt : sFd s' < most := by
              have h1 := ho'.2.1
              have h2 : ¬ sFd s' = most := fun z => by unfold ovS at hov; rw [decide_eq_true z, Bool.or_true] at hov; cases hov
              omega
            obtain rfl : q = (usb W H C G).length := hq
            rw [List.drop_length, foldC_nil] at heq
            refine r_185_40 hn ?_
            have et : (w2 I2 72 p.length (I2 72 p.length + 1)) 72 p.length = Int32.ofNat (usb W H C G).length := by rw [w2_at, if_pos ⟨rfl, rfl⟩, y72, Int32.sub_add_cancel]
            rw [y22, y24, hst', oN_clamp (by omega), et, r2.fd, (hL.mono f2).n]
            refine if_n (oN_nneg (by omega)) (if_y rfl (if_n (le_n hlt (by omega)) ⟨oN_vin (by omega) (by decide), if_n (lt_n (Nat.le_refl _) (by omega)) ?_⟩))
            have f3 : ScF p.length I2 J2 (w2 (w2 I2 72 p.length (I2 72 p.length + 1)) 59 22 (Int32.ofNat p.length - 1)) J2 := ⟨fun a k hq => by rw [w2_at, if_neg (by omega), w2_at, if_neg (by omega)], fun _ _ _ => rfl⟩
            rw [← heq] at hfin
            exact hfin _ J2 (f2.tr f3) (r2.mono (fun a k hq => by rw [w2_at, if_neg (by omega), w2_at, if_neg (by omega)])) (by rw [w2_at, if_neg (by decide), w2_ne _ _ (by decide)]; exact y24) (Or.inr (by rw [w2_at, if_pos ⟨rfl, rfl⟩]))
        | succ m ihm =>
          intro q hq s' I2 J2 f2 r2 y24 hor ho' heq
          cases hov : ovS most s' with
          | true => exact over q s' I2 J2 f2 r2 y24 hov heq
          | false =>
            obtain ⟨y22, y72, y71⟩ := hor.resolve_left (by rw [hov]; exact Bool.false_ne_true)
            have hst' : sSt s' = false := by unfold ovS at hov; rw [Bool.or_eq_false_iff] at hov; exact hov.1
            have hlt : sFd s' < most := by
              have h1 := ho'.2.1
              have h2 : ¬ sFd s' = most := fun z => by unfold ovS at hov; rw [decide_eq_true z, Bool.or_true] at hov; cases hov
              omega
            have hq' : q < (usb W H C G).length := by omega
            have hdrop : (usb W H C G).drop q = (usb W H C G).getD q 0 :: (usb W H C G).drop (q + 1) := by
              rw [List.drop_eq_getElem_cons hq', show (usb W H C G).getD q 0 = (usb W H C G)[q] by simp [List.getD, List.getElem?_eq_getElem hq']]
            rw [hdrop, foldC_cons hov] at heq
            have hL2 := hL.mono f2
            have hbq := hL2.b q hq'
            generalize hb9 : (usb W H C G).getD q 0 = b at *
            have c2 : J2 70 p.length = cov := by rw [f2.2 70 _ (by omega)]; exact hc
            refine r_185_40 hn ?_
            have et : (w2 I2 72 p.length (I2 72 p.length + 1)) 72 p.length = Int32.ofNat q := by rw [w2_at, if_pos ⟨rfl, rfl⟩, y72, Int32.sub_add_cancel]
            have em : J2 69 q = mkS W H C b := by rw [hL2.m q hq', hb9]
            rw [y22, y24, hst', oN_clamp (by omega), et, r2.fd, hL2.n, oN_clamp (by omega), em, y71, c2, oN_succ, oN_clamp (by omega)]
            refine if_n (oN_nneg (by omega)) (if_y rfl (if_n (le_n hlt (by omega)) ⟨oN_vin (by omega) (by decide), if_y (lt_y hq' (by omega)) ⟨oN_vin (by omega) (by decide), ?_⟩⟩))
            -- the next of the row
            have skip : okS (mkS W H C) cov c b = false → HEAD d nn Ln fz most Q (w2 I2 72 p.length (I2 72 p.length + 1)) J2 := by
              intro hno
              rw [hno, if_neg Bool.false_ne_true] at heq
              have f3 : ScF p.length I2 J2 (w2 I2 72 p.length (I2 72 p.length + 1)) J2 := ⟨fun a k hq => by rw [w2_at, if_neg (by omega)], fun _ _ _ => rfl⟩
              refine ihm (q + 1) (by omega) s' _ J2 (f2.tr f3) (r2.mono (fun a k hq => by rw [w2_at, if_neg (by omega)])) (by rw [w2_ne _ _ (by decide), hst']; exact (by rw [y24, hst'])) (Or.inr ⟨?_, ?_, ?_⟩) ho' heq
              · rw [w2_ne _ _ (by decide)]; exact y22
              · rw [et]; exact (oN_sub (a := q + 1) (b := 1) (by omega)).symm
              · rw [w2_ne _ _ (by decide)]; exact y71
            refine if_c (fun e2 => if_c (fun e3 => ⟨oN_vin (by omega) (by decide), ?_⟩) (fun e3 => skip ?_)) (fun e2 => skip ?_)
            · have hok : okS (mkS W H C) cov c b = true := by
                unfold okS
                rw [(bit_at1 _ hlt64).mp ((cmp1 _ _).mp e2), decide_eq_true ((cmp0 _).mp e3)]; rfl
              rw [hok, if_pos rfl] at heq
              have hlen : (p ++ [b]).length = p.length + 1 := by simp
              generalize hI3 : w2 (w2 I2 72 p.length (I2 72 p.length + 1)) 59 22 (Int32.ofNat (p.length + 1)) = I3
              generalize hJ3 : x2 J2 70 (p.length + 1) (cov ||| mkS W H C b) = J3
              have f3 : ScF p.length I2 J2 I3 J3 := ⟨fun a k hq => by rw [← hI3, w2_at, if_neg (by omega), w2_at, if_neg (by omega)], fun a k hq => by rw [← hJ3, x2_at, if_neg (by omega)]⟩
              have t3 : I3 72 p.length = Int32.ofNat q := by rw [← hI3, w2_ne _ _ (by decide)]; exact et
              have fI3 : ∀ a k, ¬ ((a = 72 ∧ k = p.length) ∨ (a = 59 ∧ k = 22)) → I3 a k = I2 a k := fun a k hq => by rw [← hI3, w2_at, if_neg (by omega), w2_at, if_neg (by omega)]
              have hS3 : Stk I3 (p ++ [b]) := by
                intro j hj
                rw [hlen] at hj
                by_cases y : j = p.length
                · subst y
                  refine ⟨q, by omega, t3, ?_⟩
                  rw [gD_app2, fI3 68 q (by omega)]; exact hbq
                · obtain ⟨u, u1, u2, u3⟩ := hS j (by omega)
                  refine ⟨u, u1, ?_, ?_⟩
                  · rw [fI3 72 j (by omega), f2.1 72 j (by omega)]; exact u2
                  · rw [gD_app1 _ _ (by omega), fI3 68 u (by omega), f2.1 68 u (by omega)]; exact u3
              refine ih (p ++ [b]) (cov ||| mkS W H C b) s' I3 J3 _ (by rw [hlen]; omega) (r2.mono (fun a k hq => fI3 a k (by omega))) hS3 (hg.push hok) ho' hlt (by rw [hlen, ← hI3, w2_at, if_pos ⟨rfl, rfl⟩]) (by rw [hlen, ← hJ3, x2_at, if_pos ⟨rfl, rfl⟩]) (by rw [f3.2 59 29 (by omega), f2.2 59 29 (by omega)]; exact hall) ((hL.mono f2).mono f3) (fun I' J' hh => kc_0 rfl rfl (r_185_189 hn hh)) (fun I4 J4 f4 r4 z24 hor4 => ?_) hst'
              rw [hlen] at f4 hor4
              have f5 := (f2.tr f3).tr f4.up
              refine ihm (q + 1) (by omega) _ I4 J4 f5 r4 z24 ?_ (hF b s' hok ho' hlt) heq
              rcases hor4 with h | h
              · exact Or.inl h
              · refine Or.inr ⟨?_, ?_, ?_⟩
                · rw [h]; exact oN_sub (b := 1) (by omega)
                · rw [f4.1 72 p.length (by omega), t3]; exact (oN_sub (a := q + 1) (b := 1) (by omega)).symm
                · rw [f4.1 71 p.length (by omega), fI3 71 p.length (by omega)]; exact y71
            · unfold okS
              rw [decide_eq_false (fun z => e3 ((cmp0 _).mpr z)), Bool.and_false]
            · unfold okS
              cases y : bt (mkS W H C b) c with
              | true => exact absurd ((cmp1 _ _).mpr ((bit_at1 _ hlt64).mpr y)) e2
              | false => rfl
      refine lp _ 0 (Nat.zero_add _) (nodeS s) I' J fS r (by rw [show sSt (nodeS s) = sSt s from rfl, hst]; exact z24) (Or.inr ⟨z22, ?_, z71⟩) hN (by rw [List.drop_zero])
      rw [z72]; rfl
end NOD
