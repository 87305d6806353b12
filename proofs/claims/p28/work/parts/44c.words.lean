/-! ===== isListed, areWords ===== -/
section LST
variable {d k nn Ln fz : Nat} {Q : Post} {pc : Nat} {L : Lc} {r : List Value} {u : Nat × Nat} {I : HI} {J : HJ} {W H : Nat} {C : Cel} {w : Wds} {hs : List Sav} {t : Nat} {T : Nat → Int32}
def GoodW (w : Wds) : Prop := ∀ i, i < w.1 → ∀ k, k < w.2.1 i → isLB (w.2.2 i k) = true
/-- the two letters compared at k -/
def pkB (w : Wds) (L : List Int32) (s e i k : Nat) : Bool := decide ((if w.2.1 i ≤ k then (-1 : Int32) else w.2.2 i k - 97) = (if k < e - s then L.getD (s + k) 0 - 97 else -1))
theorem lkB_def (w : Wds) (L : List Int32) (s e i : Nat) : lkB w (fun k => L.getD k 0) s (e - s) i = (decide (e - s < 9) && allB (pkB w L s e i) 8) := rfl
theorem b2_n (b : Bool) : b2 b = 0 ↔ b = false := by cases b <;> decide
theorem li_in (hn : 59 ≤ nn) {g s e i : Nat} (hg : g < 2 * (W + H)) (hse : s ≤ e) (he : e ≤ (rdg W H C g).length) (hi : i < w.1) {f : Int32} : ∀ n k I, k + n = 8 → CSt I J W H C w hs t T → ∀ b, b = (decide (e - s < 9) && allB (pkB w (rdg W H C g) s e i) k) →
    (∀ I', QF I J I' J → EX (cal (d + 40)) 153 Q 99 [some (.ref 1), some (.int (Int32.ofNat g)), some (.int (Int32.ofNat s)), some (.int (Int32.ofNat e)), some (.int f), some (.int (Int32.ofNat i)), some (.int (b2 (lkB w (fun k => (rdg W H C g).getD k 0) s (e - s) i))), none, none] [] (0, 0) (hp (fz + 2) nn (lay Ln) I' J)) →
    EX (cal (d + 40)) 153 Q 35 [some (.ref 1), some (.int (Int32.ofNat g)), some (.int (Int32.ofNat s)), some (.int (Int32.ofNat e)), some (.int f), some (.int (Int32.ofNat i)), some (.int (b2 b)), some (.int (Int32.ofNat k)), none] [] (0, 0) (hp (fz + 2) nn (lay Ln) I J) := by
  intro n
  induction n with
  | zero =>
    intro k I hk hc b hb h
    have : k = 8 := hk
    subst this
    have h := h I (QF.rf I J)
    rw [lkB_def, ← hb] at h
    exact q_153_35 hn (if_y (by decide) h)
  | succ n ih =>
    intro k I hk hc b hb h
    have hd := hc.dim
    have h49 := hc.w49
    have h8 := hc.wd.2.1
    have hl8 := hc.wd.2.2.2.1 i hi
    have hL := rdg_len (C := C) (by omega) (by omega) h49 hg
    refine q_153_35 hn (if_n (fun q => ?_) ?_)
    · have := (oN_le (a := 8) (b := k) (by decide) (by omega)).mp q
      omega
    cases b with
    | false =>
      have h := h I (QF.rf I J)
      have e0 : lkB w (fun k => (rdg W H C g).getD k 0) s (e - s) i = false := by
        rw [lkB_def]
        cases e1 : decide (e - s < 9) with
        | false => rfl
        | true =>
          rw [e1, Bool.true_and] at hb
          cases e2 : allB (pkB w (rdg W H C g) s e i) 8 with
          | false => rfl
          | true =>
            have := allB_iff.mp e2
            have : allB (pkB w (rdg W H C g) s e i) k = true := allB_iff.mpr fun j hj => this j (by omega)
            rw [this] at hb; cases hb
      rw [e0] at h
      exact if_y rfl h
    | true =>
      have hb1 : decide (e - s < 9) = true := by
        cases e1 : decide (e - s < 9) with
        | true => rfl
        | false => rw [e1] at hb; cases hb
      have hb2 : allB (pkB w (rdg W H C g) s e i) k = true := by rw [hb1, Bool.true_and] at hb; exact hb.symm
      refine if_n (by decide) (lk_word hn hc (by rw [in_of hi (by omega), nn_of (by omega)]; rfl) ?_)
      rw [wRx_at w (by omega) (by omega) hl8.2]
      have fin : ∀ I', QF I J I' J → ∀ x : Int32, x = (if k < e - s then (rdg W H C g).getD (s + k) 0 - 97 else -1) → EX (cal (d + 40)) 153 Q 83 [some (.ref 1), some (.int (Int32.ofNat g)), some (.int (Int32.ofNat s)), some (.int (Int32.ofNat e)), some (.int f), some (.int (Int32.ofNat i)), none, some (.int (Int32.ofNat k)), none] [.int x, .int (if w.2.1 i ≤ k then (-1 : Int32) else w.2.2 i k - 97)] (0, 0) (hp (fz + 2) nn (lay Ln) I' J) := by
        intro I' q x hx
        have nxt : ∀ c : Bool, c = pkB w (rdg W H C g) s e i k → EX (cal (d + 40)) 153 Q 91 [some (.ref 1), some (.int (Int32.ofNat g)), some (.int (Int32.ofNat s)), some (.int (Int32.ofNat e)), some (.int f), some (.int (Int32.ofNat i)), none, some (.int (Int32.ofNat k)), none] [.int (b2 c)] (0, 0) (hp (fz + 2) nn (lay Ln) I' J) := by
          intro c hcc
          refine q_153_91 hn ?_
          rw [oN_succ]
          refine ih (k + 1) I' (by omega) (hc.q q) c ?_ fun I2 q2 => h I2 (q.tr q2)
          rw [hb1, Bool.true_and]
          show c = (allB (pkB w (rdg W H C g) s e i) k && pkB w (rdg W H C g) s e i k)
          rw [hb2, Bool.true_and, hcc]
        subst hx
        refine q_153_83 hn (if_c (fun q => nxt true ?_) (fun q => nxt false ?_))
        · unfold pkB; rw [decide_eq_true q]
        · unfold pkB; rw [decide_eq_false q]
      refine q_153_55 hn ?_
      rw [oN_sub hse]
      refine if_c (fun q => ?_) (fun q => ?_)
      · have q := (oN_le (a := e - s) (b := k) (by omega) (by omega)).mp q
        exact fin I (QF.rf I J) _ (by rw [if_neg (by omega)])
      · have q : k < e - s := by
          apply Classical.byContradiction
          intro z
          exact q ((oN_le (a := e - s) (b := k) (by omega) (by omega)).mpr (by omega))
        rw [oN_add]
        refine lk_read hn hc (by rw [in_of hg (by omega), nn_of (by omega)]; rfl) fun I' q' => ?_
        rw [oN_clamp (by omega), rdB_at hL (by omega)]
        exact q_153_76 hn (fin I' q' _ (by rw [if_pos q]))
theorem li_out (hn : 59 ≤ nn) {g s e : Nat} (hg : g < 2 * (W + H)) (hse : s ≤ e) (he : e ≤ (rdg W H C g).length) : ∀ n i I, i + n = w.1 → CSt I J W H C w hs t T →
    (∀ I', QF I J I' J → Q (.inl (some (.int (b2 (anyB (lkB w (fun k => (rdg W H C g).getD k 0) s (e - s)) w.1))))) (hp (fz + 2) nn (lay Ln) I' J)) →
    EX (cal (d + 40)) 153 Q 6 [some (.ref 1), some (.int (Int32.ofNat g)), some (.int (Int32.ofNat s)), some (.int (Int32.ofNat e)), some (.int (b2 (anyB (lkB w (fun k => (rdg W H C g).getD k 0) s (e - s)) i))), some (.int (Int32.ofNat i)), none, none, none] [] (0, 0) (hp (fz + 2) nn (lay Ln) I J) := by
  intro n
  induction n with
  | zero =>
    intro i I hi hc h
    have : i = w.1 := hi
    subst this
    refine q_153_6 hn (lk_value hn hc (by decide) ?_)
    rw [nF_9]
    exact q_153_14 hn (if_y (Int32.le_refl _) ⟨b2_01 _, h I (QF.rf I J)⟩)
  | succ n ih =>
    intro i I hi hc h
    have hd := hc.dim
    have h49 := hc.w49
    have h8 := hc.wd.2.1
    have hL := rdg_len (C := C) (by omega) (by omega) h49 hg
    refine q_153_6 hn (lk_value hn hc (by decide) ?_)
    rw [nF_9]
    have go : ∀ b, b = decide (e - s < 9) → EX (cal (d + 40)) 153 Q 30 [some (.ref 1), some (.int (Int32.ofNat g)), some (.int (Int32.ofNat s)), some (.int (Int32.ofNat e)), some (.int (b2 (anyB (lkB w (fun k => (rdg W H C g).getD k 0) s (e - s)) i))), some (.int (Int32.ofNat i)), none, none, none] [.int (b2 b)] (0, 0) (hp (fz + 2) nn (lay Ln) I J) := by
      intro b hb
      refine q_153_30 hn (li_in hn hg hse he (by omega) 8 0 I (by decide) hc b (by rw [hb]; exact (Bool.and_true _).symm) fun I' q => ?_)
      have fin : ∀ c : Bool, c = anyB (lkB w (fun k => (rdg W H C g).getD k 0) s (e - s)) (i + 1) → EX (cal (d + 40)) 153 Q 114 [some (.ref 1), some (.int (Int32.ofNat g)), some (.int (Int32.ofNat s)), some (.int (Int32.ofNat e)), none, some (.int (Int32.ofNat i)), none, none, none] [.int (b2 c)] (0, 0) (hp (fz + 2) nn (lay Ln) I' J) := by
        intro c hcc
        refine q_153_114 hn ?_
        rw [oN_succ, hcc]
        exact ih (i + 1) I' (by omega) (hc.q q) fun I2 q2 => h I2 (q.tr q2)
      have e1 : anyB (lkB w (fun k => (rdg W H C g).getD k 0) s (e - s)) (i + 1) = (anyB (lkB w (fun k => (rdg W H C g).getD k 0) s (e - s)) i || lkB w (fun k => (rdg W H C g).getD k 0) s (e - s) i) := rfl
      refine q_153_99 hn ?_
      cases ea : anyB (lkB w (fun k => (rdg W H C g).getD k 0) s (e - s)) i with
      | true => exact if_n (by decide) (q_153_109 hn (fin true (by rw [e1, ea]; rfl)))
      | false =>
        refine if_y rfl ?_
        cases el : lkB w (fun k => (rdg W H C g).getD k 0) s (e - s) i with
        | true => exact if_n (by decide) (q_153_109 hn (fin true (by rw [e1, ea, el]; rfl)))
        | false => exact if_y rfl (fin false (by rw [e1, ea, el]; rfl))
    refine q_153_14 hn (if_n (fun q => ?_) ?_)
    · have := (oN_le (by omega) (by omega)).mp q
      omega
    · rw [oN_sub hse]
      refine if_c (fun q => ?_) (fun q => ?_)
      · have q := (oN_le (a := 9) (b := e - s) (by decide) (by omega)).mp q
        exact go false (decide_eq_false (by omega)).symm
      · have q : ¬ 9 ≤ e - s := fun z => q ((oN_le (a := 9) (b := e - s) (by decide) (by omega)).mpr z)
        exact go true (decide_eq_true (by omega)).symm
theorem lm_listed (hn : 59 ≤ nn) (hc : CSt I J W H C w hs t T) {g s e : Nat} (hg : g < 2 * (W + H)) (hse : s ≤ e) (he : e ≤ (rdg W H C g).length)
    (h : ∀ I', QF I J I' J → EX (cal (d + 41)) k Q pc L (.int (b2 (anyB (lkB w (fun k => (rdg W H C g).getD k 0) s (e - s)) w.1)) :: r) u (hp (fz + 2) nn (lay Ln) I' J)) :
    CA (cal (d + 41)) 153 [.ref 1, .int (Int32.ofNat g), .int (Int32.ofNat s), .int (Int32.ofNat e)] (hp (fz + 2) nn (lay Ln) I J) (fun w => KW (d + 41) k Q pc L r u w 153 (hp (fz + 2) nn (lay Ln) I J)) :=
  ⟨0, Or.inl rfl, call_in (d := d + 40) (Nat.le_of_ble_eq_true rfl) rfl rfl (q_153_0 hn (li_out (d := d) hn hg hse he w.1 0 I (Nat.zero_add _) hc fun I' q => kc_v rfl rfl (h I' q)))⟩
end LST
