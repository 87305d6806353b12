/-! ===== the wrappers' bad ends (by program, wip/p28/mk44.py) ===== -/
section LX
variable {d k nn Ln fz : Nat} {Q : Post} {pc : Nat} {L : Lc} {r : List Value} {u : Nat × Nat} {I : HI} {J : HJ} {W H : Nat} {C : Cel} {w : Wds} {hs : List Sav} {t : Nat} {T : Nat → Int32}
theorem lx_setSize {p q : Int32} (hn : 59 ≤ nn) (hc : CSt I J W H C w hs t T) (e0 : (wi p 2 7 && wi q 2 7) = false) (h : EX (cal (d + 40)) k Q pc L (.int (-5000001) :: r) u (hp (fz + 1) nn (lay Ln) I J)) :
    CA (cal (d + 40)) 132 [.ref 1, .int p, .int q] (hp (fz + 2) nn (lay Ln) I J) (fun w => KW (d + 40) k Q pc L r u w 132 (hp (fz + 2) nn (lay Ln) I J)) :=
  lf_setSize hn hc (fun _ => h) (fun e => absurd (e.symm.trans e0) (by decide))
theorem lx1_setCell {p q : Int32} (hn : 59 ≤ nn) (hc : CSt I J W H C w hs t T) (e0 : inN p (W * H) = false) (h : EX (cal (d + 40)) k Q pc L (.int (-5000003) :: r) u (hp (fz + 1) nn (lay Ln) I J)) :
    CA (cal (d + 40)) 133 [.ref 1, .int p, .int q] (hp (fz + 2) nn (lay Ln) I J) (fun w => KW (d + 40) k Q pc L r u w 133 (hp (fz + 2) nn (lay Ln) I J)) :=
  lf_setCell hn hc (fun _ => h) (fun e => absurd (e.symm.trans e0) (by decide)) (fun e => absurd (e.symm.trans e0) (by decide))
theorem lx2_setCell {p q : Int32} (hn : 59 ≤ nn) (hc : CSt I J W H C w hs t T) (e0 : inN p (W * H) = true) (e1 : isOB q = false) (h : EX (cal (d + 40)) k Q pc L (.int (-5000001) :: r) u (hp (fz + 1) nn (lay Ln) I J)) :
    CA (cal (d + 40)) 133 [.ref 1, .int p, .int q] (hp (fz + 2) nn (lay Ln) I J) (fun w => KW (d + 40) k Q pc L r u w 133 (hp (fz + 2) nn (lay Ln) I J)) :=
  lf_setCell hn hc (fun e => absurd (e.symm.trans e0) (by decide)) (fun _ _ => h) (fun _ e => absurd (e.symm.trans e1) (by decide))
theorem lx_addWord (hn : 59 ≤ nn) (hc : CSt I J W H C w hs t T) (e0 : canW w t T = false) (h : EX (cal (d + 40)) k Q pc L (.int (-5000002) :: r) u (hp (fz + 1) nn (lay Ln) I J)) :
    CA (cal (d + 40)) 134 [.ref 1] (hp (fz + 2) nn (lay Ln) I J) (fun w => KW (d + 40) k Q pc L r u w 134 (hp (fz + 2) nn (lay Ln) I J)) :=
  lf_addWord hn hc (fun _ => h) (fun e => absurd (e.symm.trans e0) (by decide))
theorem lx_removeWord {p : Int32} (hn : 59 ≤ nn) (hc : CSt I J W H C w hs t T) (e0 : inN p w.1 = false) (h : EX (cal (d + 40)) k Q pc L (.int (-5000003) :: r) u (hp (fz + 1) nn (lay Ln) I J)) :
    CA (cal (d + 40)) 135 [.ref 1, .int p] (hp (fz + 2) nn (lay Ln) I J) (fun w => KW (d + 40) k Q pc L r u w 135 (hp (fz + 2) nn (lay Ln) I J)) :=
  lf_removeWord hn hc (fun _ => h) (fun e => absurd (e.symm.trans e0) (by decide))
theorem lx1_cell {p q : Int32} (hn : 59 ≤ nn) (hc : CSt I J W H C w hs t T) (e0 : inN p (W * H) = false) (h : EX (cal (d + 40)) k Q pc L (.int (-5000003) :: r) u (hp (fz + 1) nn (lay Ln) I J)) :
    CA (cal (d + 40)) 136 [.ref 1, .int p, .int q] (hp (fz + 2) nn (lay Ln) I J) (fun w => KW (d + 40) k Q pc L r u w 136 (hp (fz + 2) nn (lay Ln) I J)) :=
  lf_cell hn hc (fun _ => h) (fun e => absurd (e.symm.trans e0) (by decide)) (fun e => absurd (e.symm.trans e0) (by decide))
theorem lx2_cell {p q : Int32} (hn : 59 ≤ nn) (hc : CSt I J W H C w hs t T) (e0 : inN p (W * H) = true) (e1 : wi q 0 4 = false) (h : EX (cal (d + 40)) k Q pc L (.int (-5000001) :: r) u (hp (fz + 1) nn (lay Ln) I J)) :
    CA (cal (d + 40)) 136 [.ref 1, .int p, .int q] (hp (fz + 2) nn (lay Ln) I J) (fun w => KW (d + 40) k Q pc L r u w 136 (hp (fz + 2) nn (lay Ln) I J)) :=
  lf_cell hn hc (fun e => absurd (e.symm.trans e0) (by decide)) (fun _ _ => h) (fun _ e => absurd (e.symm.trans e1) (by decide))
theorem lx_value {p : Int32} (hn : 59 ≤ nn) (hc : CSt I J W H C w hs t T) (e0 : wi p 0 9 = false) (h : EX (cal (d + 40)) k Q pc L (.int (-5000001) :: r) u (hp (fz + 1) nn (lay Ln) I J)) :
    CA (cal (d + 40)) 137 [.ref 1, .int p] (hp (fz + 2) nn (lay Ln) I J) (fun w => KW (d + 40) k Q pc L r u w 137 (hp (fz + 2) nn (lay Ln) I J)) :=
  lf_value hn hc (fun _ => h) (fun e => absurd (e.symm.trans e0) (by decide))
theorem lx_word {p q : Int32} (hn : 59 ≤ nn) (hc : CSt I J W H C w hs t T) (e0 : (inN p w.1 && decide (0 ≤ q)) = false) (h : EX (cal (d + 40)) k Q pc L (.int (-5000003) :: r) u (hp (fz + 1) nn (lay Ln) I J)) :
    CA (cal (d + 40)) 138 [.ref 1, .int p, .int q] (hp (fz + 2) nn (lay Ln) I J) (fun w => KW (d + 40) k Q pc L r u w 138 (hp (fz + 2) nn (lay Ln) I J)) :=
  lf_word hn hc (fun _ => h) (fun e => absurd (e.symm.trans e0) (by decide))
theorem lx1_band {p q : Int32} (hn : 59 ≤ nn) (hc : CSt I J W H C w hs t T) (e0 : inN p (2 * (W + H)) = false) (h : EX (cal (d + 40)) k Q pc L (.int (-5000003) :: r) u (hp (fz + 1) nn (lay Ln) I J)) :
    CA (cal (d + 40)) 139 [.ref 1, .int p, .int q] (hp (fz + 2) nn (lay Ln) I J) (fun w => KW (d + 40) k Q pc L r u w 139 (hp (fz + 2) nn (lay Ln) I J)) :=
  lf_band hn hc (fun _ => h) (fun e => absurd (e.symm.trans e0) (by decide)) (fun e => absurd (e.symm.trans e0) (by decide))
theorem lx2_band {p q : Int32} (hn : 59 ≤ nn) (hc : CSt I J W H C w hs t T) (e0 : inN p (2 * (W + H)) = true) (e1 : wi q 0 6 = false) (h : EX (cal (d + 40)) k Q pc L (.int (-5000001) :: r) u (hp (fz + 1) nn (lay Ln) I J)) :
    CA (cal (d + 40)) 139 [.ref 1, .int p, .int q] (hp (fz + 2) nn (lay Ln) I J) (fun w => KW (d + 40) k Q pc L r u w 139 (hp (fz + 2) nn (lay Ln) I J)) :=
  lf_band hn hc (fun e => absurd (e.symm.trans e0) (by decide)) (fun _ _ => h) (fun _ e => absurd (e.symm.trans e1) (by decide))
theorem lx_cellOf {p q : Int32} (hn : 59 ≤ nn) (hc : CSt I J W H C w hs t T) (e0 : inP W H C p q = false) (h : EX (cal (d + 40)) k Q pc L (.int (-5000003) :: r) u (hp (fz + 1) nn (lay Ln) I J)) :
    CA (cal (d + 40)) 140 [.ref 1, .int p, .int q] (hp (fz + 2) nn (lay Ln) I J) (fun w => KW (d + 40) k Q pc L r u w 140 (hp (fz + 2) nn (lay Ln) I J)) :=
  lf_cellOf hn hc (fun _ => h) (fun e => absurd (e.symm.trans e0) (by decide))
theorem lx_read {p q : Int32} (hn : 59 ≤ nn) (hc : CSt I J W H C w hs t T) (e0 : (inN p (2 * (W + H)) && decide (0 ≤ q)) = false) (h : EX (cal (d + 40)) k Q pc L (.int (-5000003) :: r) u (hp (fz + 1) nn (lay Ln) I J)) :
    CA (cal (d + 40)) 141 [.ref 1, .int p, .int q] (hp (fz + 2) nn (lay Ln) I J) (fun w => KW (d + 40) k Q pc L r u w 141 (hp (fz + 2) nn (lay Ln) I J)) :=
  lf_read hn hc (fun _ => h) (fun e => absurd (e.symm.trans e0) (by decide))
theorem lx_wordsOf {p : Int32} (hn : 59 ≤ nn) (hc : CSt I J W H C w hs t T) (e0 : inN p (2 * (W + H)) = false) (h : EX (cal (d + 40)) k Q pc L (.int (-5000003) :: r) u (hp (fz + 1) nn (lay Ln) I J)) :
    CA (cal (d + 40)) 142 [.ref 1, .int p] (hp (fz + 2) nn (lay Ln) I J) (fun w => KW (d + 40) k Q pc L r u w 142 (hp (fz + 2) nn (lay Ln) I J)) :=
  lf_wordsOf hn hc (fun _ => h) (fun e => absurd (e.symm.trans e0) (by decide))
theorem lx_choices {p : Int32} (hn : 59 ≤ nn) (hc : CSt I J W H C w hs t T) (e0 : wi p 1 50 = false) (h : EX (cal (d + 40)) k Q pc L (.int (-5000001) :: r) u (hp (fz + 1) nn (lay Ln) I J)) :
    CA (cal (d + 40)) 144 [.ref 1, .int p] (hp (fz + 2) nn (lay Ln) I J) (fun w => KW (d + 40) k Q pc L r u w 144 (hp (fz + 2) nn (lay Ln) I J)) :=
  lf_choices hn hc (fun _ => h) (fun e => absurd (e.symm.trans e0) (by decide))
theorem lx_nodes {p : Int32} (hn : 59 ≤ nn) (hc : CSt I J W H C w hs t T) (e0 : wi p 1 50 = false) (h : EX (cal (d + 40)) k Q pc L (.int (-5000001) :: r) u (hp (fz + 1) nn (lay Ln) I J)) :
    CA (cal (d + 40)) 145 [.ref 1, .int p] (hp (fz + 2) nn (lay Ln) I J) (fun w => KW (d + 40) k Q pc L r u w 145 (hp (fz + 2) nn (lay Ln) I J)) :=
  lf_nodes hn hc (fun _ => h) (fun e => absurd (e.symm.trans e0) (by decide))
theorem lx_chosen {p : Int32} (hn : 59 ≤ nn) (hc : CSt I J W H C w hs t T) (e0 : decide (0 ≤ p) = false) (h : EX (cal (d + 40)) k Q pc L (.int (-5000003) :: r) u (hp (fz + 1) nn (lay Ln) I J)) :
    CA (cal (d + 40)) 146 [.ref 1, .int p] (hp (fz + 2) nn (lay Ln) I J) (fun w => KW (d + 40) k Q pc L r u w 146 (hp (fz + 2) nn (lay Ln) I J)) :=
  lf_chosen hn hc (fun _ => h) (fun e => absurd (e.symm.trans e0) (by decide))
theorem in_neg {n : Nat} : inN (-1) n = false := by
  unfold inN
  rw [show decide ((0 : Int32) ≤ -1) = false by decide]
  rfl
theorem in_0 {n : Nat} (h : 0 < n) (hn : n < 2 ^ 31) : inN 0 n = true := in_of (a := 0) h hn
theorem ip_neg {p : Int32} : inP W H C p (-1) = false := by
  unfold inP
  rw [in_neg, Bool.and_false]
theorem ip_gt {q : Int32} (h : 2 * (W + H) < 2 ^ 31) : inP W H C (Int32.ofNat (2 * (W + H))) q = false := by
  unfold inP
  rw [in_no (Nat.le_refl _) h, Bool.false_and]
theorem cn_z {T : Nat → Int32} : canW w 0 T = false := by
  unfold canW isWB
  rw [show decide (1 ≤ 0) = false by decide]
  rfl
theorem cn_A {T : Nat → Int32} : canW w 1 (addT 0 T 65) = false := by
  have : isWB 1 (addT 0 T 65) = false := by
    unfold isWB
    rw [show allB (fun k => isLB (addT 0 T 65 k)) 1 = false from rfl, Bool.and_false]
  unfold canW
  rw [this]
  rfl
end LX
