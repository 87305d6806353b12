/-! ===== the search: by numbers; by the class ===== -/
/-- nodes, choices found, whether stopped, the fewest bands, the first choice -/
abbrev SR : Type := Nat × Nat × Bool × Nat × List Int32
def sLk (s : SR) : Nat := s.1
def sFd (s : SR) : Nat := s.2.1
def sSt (s : SR) : Bool := s.2.2.1
def sSm (s : SR) : Nat := s.2.2.2.1
def sFs (s : SR) : List Int32 := s.2.2.2.2
def stopS (s : SR) : SR := (sLk s, sFd s, true, sSm s, sFs s)
def nodeS (s : SR) : SR := (sLk s + 1, sFd s, sSt s, sSm s, sFs s)
def keepS (p : List Int32) (s : SR) : SR := (sLk s, sFd s + 1, sSt s, if sFd s = 0 then p.length else min (sSm s) p.length, if sFd s = 0 then p else sFs s)
def ovS (most : Nat) (s : SR) : Bool := sSt s || decide (sFd s = most)
def foldC (most : Nat) (ok : Int32 → Bool) (f : Int32 → SR → SR) : List Int32 → SR → SR
  | [], s => s
  | g :: gs, s => if ovS most s then s else foldC most ok f gs (if ok g then f g s else s)
def opn (all cov : Int64) : Int64 := all &&& (cov ^^^ (-1))
def okS (mk : Int32 → Int64) (cov : Int64) (c : Nat) (g : Int32) : Bool := bt (mk g) c && decide (mk g &&& cov = 0)
def lookS (all : Int64) (mk : Int32 → Int64) (cand : Nat → List Int32) (most : Nat) : Nat → List Int32 → Int64 → SR → SR
  | 0, _, _, s => stopS s
  | n + 1, p, cov, s => if sLk s = 2000 then stopS s else if opn all cov = 0 then keepS p (nodeS s) else
      foldC most (okS mk cov (lowb (opn all cov))) (fun g s => lookS all mk cand most n (p ++ [g]) (cov ||| mk g) s) (cand (lowb (opn all cov))) (nodeS s)
def okN50 (most : Nat) (s : SR) : Prop := sLk s ≤ 2000 ∧ sFd s ≤ most ∧ sSm s ≤ 28 ∧ (sFs s).length ≤ 28
theorem foldC_ok {most : Nat} {ok : Int32 → Bool} {f : Int32 → SR → SR} (hf : ∀ g s, ok g = true → okN50 most s → sFd s < most → okN50 most (f g s)) (l : List Int32) : ∀ s, okN50 most s → okN50 most (foldC most ok f l s) := by
  induction l with
  | nil => exact fun s h => h
  | cons g gs ih =>
    intro s h
    unfold foldC
    split
    · exact h
    · rename_i hov
      apply ih
      split
      · rename_i hok
        refine hf g s hok h ?_
        have : ¬ (sFd s = most) := fun e => hov (by unfold ovS; rw [decide_eq_true e, Bool.or_true])
        have := h.2.1
        omega
      · exact h
theorem stopS_ok {most : Nat} {s : SR} (h : okN50 most s) : okN50 most (stopS s) := h
theorem nodeS_ok {most : Nat} {s : SR} (h : okN50 most s) (h2 : sLk s ≠ 2000) : okN50 most (nodeS s) := ⟨by have := h.1; show sLk s + 1 ≤ 2000; omega, h.2⟩
theorem keepS_ok {most : Nat} {p : List Int32} {s : SR} (h : okN50 most s) (h2 : sFd s < most) (hp : p.length ≤ 28) : okN50 most (keepS p s) := by
  refine ⟨h.1, by show sFd s + 1 ≤ most; omega, ?_, ?_⟩
  · show (if sFd s = 0 then p.length else min (sSm s) p.length) ≤ 28
    split <;> omega
  · show (if sFd s = 0 then p else sFs s).length ≤ 28
    split
    · exact hp
    · exact h.2.2.2
theorem lookS_ok {all : Int64} {mk : Int32 → Int64} {cand : Nat → List Int32} {most : Nat} : ∀ (n : Nat) (p : List Int32) (cov : Int64) (s : SR), p.length + n ≤ 29 → okN50 most s → sFd s < most → okN50 most (lookS all mk cand most n p cov s) := by
  intro n
  induction n with
  | zero => intro p cov s _ h _; exact stopS_ok h
  | succ n ih =>
    intro p cov s hp h hf
    unfold lookS
    split
    · exact stopS_ok h
    · rename_i h1
      split
      · exact keepS_ok (nodeS_ok h h1) hf (by omega)
      · refine foldC_ok (fun g s' _ h' hf' => ?_) _ _ (nodeS_ok h h1)
        exact ih _ _ _ (by rw [List.length_append]; simp; omega) h' hf'
noncomputable def mkG (W H : Nat) (C : Cel) (g : Nat) : Int64 := if g < 2 * (W + H) ∧ fstB W H C g = true ∧ crB (pC W H C g) (bN W H C g) = false then orB (pC W H C g) (bN W H C g) &&& rmask C (W * H) else 0
noncomputable def mkS (W H : Nat) (C : Cel) (b : Int32) : Int64 := atJ (mkG W H C) 28 b
noncomputable def loS (W H : Nat) (C : Cel) (c : Nat) : Int32 := if lowB W H C 0 c (2 * (W + H)) < lowB W H C 1 c (2 * (W + H)) then lowB W H C 0 c (2 * (W + H)) else lowB W H C 1 c (2 * (W + H))
noncomputable def hiS (W H : Nat) (C : Cel) (c : Nat) : Int32 := if lowB W H C 1 c (2 * (W + H)) < lowB W H C 0 c (2 * (W + H)) then lowB W H C 0 c (2 * (W + H)) else lowB W H C 1 c (2 * (W + H))
/-- the class's way -/
noncomputable def runC (W H : Nat) (C : Cel) (most : Nat) : SR := lookS (rmask C (W * H)) (mkS W H C) (fun c => [loS W H C c, hiS W H C c]) most 29 [] 0 (0, 0, false, 0, [])
def SrE (W H : Nat) (C : Cel) (most : Nat) (I : HI) (J : HJ) : Prop :=
  (J 47 5 = rmask C (W * H)) ∧
  (I 47 6 = Int32.ofNat most) ∧
  (∀ g, g < 28 → J 48 g = mkG W H C g) ∧
  (∀ c, c < 49 → I 49 c = loS W H C c) ∧
  (∀ c, c < 49 → I 50 c = hiS W H C c)
theorem SrE.all {W H : Nat} {C : Cel} {most : Nat} {I : HI} {J : HJ} (h : SrE W H C most I J) : J 47 5 = rmask C (W * H) := h.1
theorem SrE.most_ {W H : Nat} {C : Cel} {most : Nat} {I : HI} {J : HJ} (h : SrE W H C most I J) : I 47 6 = Int32.ofNat most := h.2.1
theorem SrE.mk_ {W H : Nat} {C : Cel} {most : Nat} {I : HI} {J : HJ} (h : SrE W H C most I J) : ∀ g, g < 28 → J 48 g = mkG W H C g := h.2.2.1
theorem SrE.lo {W H : Nat} {C : Cel} {most : Nat} {I : HI} {J : HJ} (h : SrE W H C most I J) : ∀ c, c < 49 → I 49 c = loS W H C c := h.2.2.2.1
theorem SrE.hi {W H : Nat} {C : Cel} {most : Nat} {I : HI} {J : HJ} (h : SrE W H C most I J) : ∀ c, c < 49 → I 50 c = hiS W H C c := h.2.2.2.2
theorem SrE.mk {W H : Nat} {C : Cel} {most : Nat} {I : HI} {J : HJ} (c_all : J 47 5 = rmask C (W * H)) (c_most_ : I 47 6 = Int32.ofNat most) (c_mk_ : ∀ g, g < 28 → J 48 g = mkG W H C g) (c_lo : ∀ c, c < 49 → I 49 c = loS W H C c) (c_hi : ∀ c, c < 49 → I 50 c = hiS W H C c) : SrE W H C most I J := ⟨c_all, c_most_, c_mk_, c_lo, c_hi⟩
def SrR (I : HI) (s : SR) : Prop :=
  (I 47 7 = Int32.ofNat (sLk s)) ∧
  (I 47 8 = Int32.ofNat (sFd s)) ∧
  (I 47 11 = b2 (sSt s)) ∧
  (I 47 9 = Int32.ofNat (sFs s).length) ∧
  (I 47 10 = if sFd s = 0 then -1 else Int32.ofNat (sSm s)) ∧
  (∀ k, k < (sFs s).length → I 52 k = (sFs s).getD k 0)
theorem SrR.lk {I : HI} {s : SR} (h : SrR I s) : I 47 7 = Int32.ofNat (sLk s) := h.1
theorem SrR.fd {I : HI} {s : SR} (h : SrR I s) : I 47 8 = Int32.ofNat (sFd s) := h.2.1
theorem SrR.st {I : HI} {s : SR} (h : SrR I s) : I 47 11 = b2 (sSt s) := h.2.2.1
theorem SrR.sz {I : HI} {s : SR} (h : SrR I s) : I 47 9 = Int32.ofNat (sFs s).length := h.2.2.2.1
theorem SrR.sm {I : HI} {s : SR} (h : SrR I s) : I 47 10 = if sFd s = 0 then -1 else Int32.ofNat (sSm s) := h.2.2.2.2.1
theorem SrR.fs {I : HI} {s : SR} (h : SrR I s) : ∀ k, k < (sFs s).length → I 52 k = (sFs s).getD k 0 := h.2.2.2.2.2
theorem SrR.mk {I : HI} {s : SR} (c_lk : I 47 7 = Int32.ofNat (sLk s)) (c_fd : I 47 8 = Int32.ofNat (sFd s)) (c_st : I 47 11 = b2 (sSt s)) (c_sz : I 47 9 = Int32.ofNat (sFs s).length) (c_sm : I 47 10 = if sFd s = 0 then -1 else Int32.ofNat (sSm s)) (c_fs : ∀ k, k < (sFs s).length → I 52 k = (sFs s).getD k 0) : SrR I s := ⟨c_lk, c_fd, c_st, c_sz, c_sm, c_fs⟩
def PkR (I : HI) (p : List Int32) : Prop := ∀ k, k < p.length → k < 28 → I 51 k = p.getD k 0
/-- what a search of the class changes -/
def SrF (I I' : HI) : Prop := ∀ a k, ¬ (a = 51 ∨ a = 52 ∨ (a = 47 ∧ 7 ≤ k)) → I' a k = I a k
theorem SrF.rf (I : HI) : SrF I I := fun _ _ _ => rfl
theorem SrF.tr {I I' I'' : HI} (h : SrF I I') (h2 : SrF I' I'') : SrF I I'' := fun a k q => (h2 a k q).trans (h a k q)
theorem SrE.mono {W H : Nat} {C : Cel} {most : Nat} {I I' : HI} {J : HJ} (h : SrE W H C most I J) (hf : SrF I I') : SrE W H C most I' J :=
  SrE.mk h.all (by rw [hf 47 6 (by omega)]; exact h.most_) h.mk_ (fun c hc => by rw [hf 49 c (by omega)]; exact h.lo c hc) (fun c hc => by rw [hf 50 c (by omega)]; exact h.hi c hc)
section SRC
variable {d nn Ln : Nat} {fz : Nat} {K : Post} {W H : Nat} {C : Cel} {most : Nat} {J : HJ}
theorem keep_ok {I : HI} {s : SR} {p : List Int32} (hR : SrR I s) (hP : PkR I p) (hp : p.length ≤ 28) (ho : okN50 most s) (hm : most ≤ 50) : SrR (fI_X4_keepChoice (Int32.ofNat p.length) I) (keepS p s) ∧ SrF I (fI_X4_keepChoice (Int32.ofNat p.length) I) ∧ PkR (fI_X4_keepChoice (Int32.ofNat p.length) I) p := by
  have o1 := ho.2.1
  have o2 := ho.2.2.1
  unfold fI_X4_keepChoice
  rw [hR.fd]
  by_cases e : sFd s = 0
  · rw [e, if_pos (show Int32.ofNat 0 = 0 from rfl), oN_succ]
    refine ⟨SrR.mk ?_ ?_ ?_ ?_ ?_ (fun k hk => ?_), fun a k hq => ?_, fun k hk hk2 => ?_⟩
    · rw [w2_at, if_neg (by decide), w2_at, if_neg (by decide), w2_at, if_neg (by decide), cpI_row _ _ _ _ (by decide)]; exact hR.lk
    · rw [w2_at, if_pos ⟨rfl, rfl⟩]; show _ = Int32.ofNat (sFd s + 1); rw [e]
    · rw [w2_at, if_neg (by decide), w2_at, if_neg (by decide), w2_at, if_neg (by decide), cpI_row _ _ _ _ (by decide)]; exact hR.st
    · rw [w2_at, if_neg (by decide), w2_at, if_neg (by decide), w2_at, if_pos ⟨rfl, rfl⟩]; show _ = Int32.ofNat (if sFd s = 0 then p else sFs s).length; rw [if_pos e]
    · rw [w2_at, if_neg (by decide), w2_at, if_pos ⟨rfl, rfl⟩]
      show _ = if sFd s + 1 = 0 then (-1 : Int32) else Int32.ofNat (if sFd s = 0 then p.length else min (sSm s) p.length)
      rw [if_neg (by omega), if_pos e]
    · have hk : k < (if sFd s = 0 then p else sFs s).length := hk
      rw [if_pos e] at hk
      rw [w2_ne _ _ (by decide), w2_ne _ _ (by decide), w2_ne _ _ (by decide), cpI_at, if_pos ⟨rfl, by omega⟩]
      show _ = (if sFd s = 0 then p else sFs s).getD k 0
      rw [if_pos e]
      exact hP k hk (by omega)
    · rw [w2_at, if_neg (by omega), w2_at, if_neg (by omega), w2_at, if_neg (by omega), cpI_at, if_neg (by omega)]
    · rw [w2_ne _ _ (by decide), w2_ne _ _ (by decide), w2_ne _ _ (by decide), cpI_row _ _ _ _ (by decide)]; exact hP k hk hk2
  · have e' : ¬ Int32.ofNat (sFd s) = 0 := fun q => e ((oN_eq (b := 0) (by omega) (by decide)).mp q)
    rw [if_neg e', oN_succ]
    have e10 : I 47 10 = Int32.ofNat (sSm s) := by rw [hR.sm, if_neg e]
    have em : (if Int32.ofNat p.length < I 47 10 then Int32.ofNat p.length else I 47 10) = Int32.ofNat (min (sSm s) p.length) := by
      rw [e10]
      by_cases q : p.length < sSm s
      · rw [if_pos (lt_y q (by omega)), show min (sSm s) p.length = p.length by omega]
      · rw [if_neg (lt_n (by omega) (by omega)), show min (sSm s) p.length = sSm s by omega]
    rw [em]
    refine ⟨SrR.mk ?_ ?_ ?_ ?_ ?_ (fun k hk => ?_), fun a k hq => ?_, fun k hk hk2 => ?_⟩
    · rw [w2_at, if_neg (by decide), w2_at, if_neg (by decide)]; exact hR.lk
    · rw [w2_at, if_pos ⟨rfl, rfl⟩]; rfl
    · rw [w2_at, if_neg (by decide), w2_at, if_neg (by decide)]; exact hR.st
    · rw [w2_at, if_neg (by decide), w2_at, if_neg (by decide)]; show _ = Int32.ofNat (if sFd s = 0 then p else sFs s).length; rw [if_neg e]; exact hR.sz
    · rw [w2_at, if_neg (by decide), w2_at, if_pos ⟨rfl, rfl⟩]
      show _ = if sFd s + 1 = 0 then (-1 : Int32) else Int32.ofNat (if sFd s = 0 then p.length else min (sSm s) p.length)
      rw [if_neg (by omega), if_neg e]
    · have hk : k < (if sFd s = 0 then p else sFs s).length := hk
      rw [if_neg e] at hk
      rw [w2_ne _ _ (by decide), w2_ne _ _ (by decide)]
      show _ = (if sFd s = 0 then p else sFs s).getD k 0
      rw [if_neg e]
      exact hR.fs k hk
    · rw [w2_at, if_neg (by omega), w2_at, if_neg (by omega)]
    · rw [w2_ne _ _ (by decide), w2_ne _ _ (by decide)]; exact hP k hk hk2
theorem SrR.node {I : HI} {s : SR} (hR : SrR I s) : SrR (w2 I 47 7 (I 47 7 + 1)) (nodeS s) ∧ SrF I (w2 I 47 7 (I 47 7 + 1)) := by
  refine ⟨SrR.mk ?_ ?_ ?_ ?_ ?_ (fun k hk => ?_), fun a k hq => ?_⟩
  · rw [w2_at, if_pos ⟨rfl, rfl⟩, hR.lk, oN_succ]; rfl
  · rw [w2_at, if_neg (by decide)]; exact hR.fd
  · rw [w2_at, if_neg (by decide)]; exact hR.st
  · rw [w2_at, if_neg (by decide)]; exact hR.sz
  · rw [w2_at, if_neg (by decide)]; exact hR.sm
  · rw [w2_ne _ _ (by decide)]; exact hR.fs k hk
  · rw [w2_at, if_neg (by omega)]
theorem SrR.stop {I : HI} {s : SR} (hR : SrR I s) : SrR (w2 I 47 11 1) (stopS s) ∧ SrF I (w2 I 47 11 1) := by
  refine ⟨SrR.mk ?_ ?_ ?_ ?_ ?_ (fun k hk => ?_), fun a k hq => ?_⟩
  · rw [w2_at, if_neg (by decide)]; exact hR.lk
  · rw [w2_at, if_neg (by decide)]; exact hR.fd
  · rw [w2_at, if_pos ⟨rfl, rfl⟩]; rfl
  · rw [w2_at, if_neg (by decide)]; exact hR.sz
  · rw [w2_at, if_neg (by decide)]; exact hR.sm
  · rw [w2_ne _ _ (by decide)]; exact hR.fs k hk
  · rw [w2_at, if_neg (by omega)]
theorem PkR.mono {I I' : HI} {p : List Int32} (h : PkR I p) (h2 : I' 51 = I 51) : PkR I' p := fun k q r => by rw [h2]; exact h k q r
theorem SrR.pk {I I' : HI} {s : SR} (hR : SrR I s) (h : ∀ a, a ≠ 51 → I' a = I a) : SrR I' s := by
  have h1 := h 47 (by decide)
  have h2 := h 52 (by decide)
  refine SrR.mk ?_ ?_ ?_ ?_ ?_ (fun k hk => ?_)
  · rw [h1]; exact hR.lk
  · rw [h1]; exact hR.fd
  · rw [h1]; exact hR.st
  · rw [h1]; exact hR.sz
  · rw [h1]; exact hR.sm
  · rw [h2]; exact hR.fs k hk
theorem isOver_eq {I : HI} {s : SR} (hE : SrE W H C most I J) (hR : SrR I s) (ho : okN50 most s) (hm : most ≤ 50) : f_X4_isOver I = 0 ↔ ovS most s = false := by
  have o1 := ho.2.1
  unfold f_X4_isOver ovS
  rw [hR.st, hR.fd, hE.most_]
  cases sSt s with
  | true => rw [if_neg (by decide)]; simp
  | false =>
    rw [if_pos (show b2 false = 0 from rfl)]
    by_cases e : sFd s = most
    · rw [if_pos (by rw [e])]; simp [e]
    · rw [if_neg (fun q => e ((oN_eq (by omega) (by omega)).mp q))]; simp [e]
theorem foldC_ov {ok : Int32 → Bool} {f : Int32 → SR → SR} {s : SR} (h : ovS most s = true) (l : List Int32) : foldC most ok f l s = s := by
  cases l with
  | nil => rfl
  | cons g gs => unfold foldC; rw [if_pos h]
theorem foldC_nil {ok : Int32 → Bool} {f : Int32 → SR → SR} (s : SR) : foldC most ok f [] s = s := rfl
theorem foldC_cons {ok : Int32 → Bool} {f : Int32 → SR → SR} {g : Int32} {gs : List Int32} {s : SR} (h : ovS most s = false) : foldC most ok f (g :: gs) s = foldC most ok f gs (if ok g then f g s else s) := by
  show (if ovS most s = true then s else foldC most ok f gs (if ok g then f g s else s)) = _
  rw [h, if_neg Bool.false_ne_true]
theorem sp_look (hn : 59 ≤ nn) (hW : W * H ≤ 49) (hm : most ≤ 50) : ∀ (n : Nat) (p : List Int32) (cov : Int64) (s : SR) (I : HI) (K : Post), p.length + n = 29 → SrE W H C most I J → SrR I s → PkR I p → okN50 most s → sFd s < most →
    (∀ I', SrF I I' → SrR I' (lookS (rmask C (W * H)) (mkS W H C) (fun c => [loS W H C c, hiS W H C c]) most n p cov s) → PkR I' p → K (.inl none) (hp fz nn (lay Ln) I' J)) →
    cal (d + 3 + n) 42 [.ref 47, .int (Int32.ofNat p.length), .long cov] (hp fz nn (lay Ln) I J) K := by
  intro n
  induction n with
  | zero =>
    intro p cov s I K hl hE hR hP ho hf hK
    have hp29 : p.length = 29 := by omega
    obtain ⟨r1, r2⟩ := hR.stop
    have hk := hK _ r2 r1 (hP.mono (w2_other _ _ _ (by decide)))
    refine call_in (d := d + 2) (Nat.le_of_ble_eq_true rfl) rfl rfl (r_42_0 hn (if_c (fun _ => hk) (fun _ => if_n ?_ hk)))
    exact le_n (b := 28) (by omega) (by omega)
  | succ n ih =>
    intro p cov s I K hl hE hR hP ho hf hK
    have o1 := ho.1
    have hcal : d + 3 + (n + 1) = (d + (n + 1) + 2) + 1 := by omega
    rw [hcal]
    refine call_in (Nat.le_of_ble_eq_true rfl) rfl rfl (r_42_0 hn ?_)
    rw [hE.all]
    unfold lookS at hK
    by_cases e1 : sLk s = 2000
    · rw [if_pos e1] at hK
      obtain ⟨r1, r2⟩ := hR.stop
      exact if_y (by rw [hR.lk, e1]; rfl) (hK _ r2 r1 (hP.mono (w2_other _ _ _ (by decide))))
    · rw [if_neg e1] at hK
      have hN := nodeS_ok ho e1
      obtain ⟨r1, r2⟩ := hR.node
      have hP1 := hP.mono (I' := w2 I 47 7 (I 47 7 + 1)) (w2_other _ _ _ (by decide))
      have hE1 := hE.mono r2
      refine if_n (fun q => e1 ?_) (if_y (le_y (b := 28) (by omega) (by decide)) ?_)
      · rw [hR.lk] at q
        exact (oN_eq (b := 2000) (by omega) (by decide)).mp q
      have eo : rmask C (W * H) &&& (cov ^^^ (-1)) = opn (rmask C (W * H)) cov := rfl
      rw [eo]
      generalize ho9 : opn (rmask C (W * H)) cov = op at *
      by_cases e2 : op = 0
      · rw [if_pos e2] at hK
        obtain ⟨k1, k2, k3⟩ := keep_ok r1 hP1 (by omega) hN hm
        exact if_y ((cmp0 _).mpr e2) (hK _ (r2.tr k2) k1 k3)
      · rw [if_neg e2] at hK
        refine if_n (fun q => e2 ((cmp0 _).mp q)) ?_
        have hc64 := lowb_lt e2
        have hc : lowb op < W * H := by
          have h1 : bt (opn (rmask C (W * H)) cov) (lowb op) = true := by
            rw [ho9]; exact lowb_at e2
          unfold opn at h1
          rw [bt_and, bt_rmask (by omega)] at h1
          have h2 := (Bool.and_eq_true _ _ ▸ h1).1
          have h3 := (Bool.and_eq_true _ _ ▸ h2).1
          exact decide_eq_true_iff.mp h3
        rw [low_eq e2, low_cnt _ hc64]
        generalize lowb op = c at *
        generalize w2 I 47 7 (I 47 7 + 1) = I1 at *
        -- the two turns
        let F : Int32 → SR → SR := fun g s => lookS (rmask C (W * H)) (mkS W H C) (fun c => [loS W H C c, hiS W H C c]) most n (p ++ [g]) (cov ||| mkS W H C g) s
        have hF : ∀ g s, okS (mkS W H C) cov c g = true → okN50 most s → sFd s < most → okN50 most (F g s) := fun g s _ h1 h2 => lookS_ok n _ _ _ (by rw [List.length_append]; simp; omega) h1 h2
        have hK : ∀ I', SrF I1 I' → SrR I' (foldC most (okS (mkS W H C) cov c) F [loS W H C c, hiS W H C c] (nodeS s)) → PkR I' p → K (.inl none) (hp fz nn (lay Ln) I' J) := fun I' q1 q2 q3 => hK I' (r2.tr q1) q2 q3
        let G : Nat → HI → Prop := fun x I' => EX (cal (d + (n + 1) + 2)) 42 K 77 [some (.ref 47), some (.int (Int32.ofNat p.length)), some (.long cov), none, none, none, some (.long (bitL c)), none, some (.int (Int32.ofNat c)), some (.int (Int32.ofNat x)), none, none, none] [] (0, 0) (hp fz nn (lay Ln) I' J)
        have step : ∀ (x : Nat) (b : Int32) (s' : SR) (I' : HI), x < 2 → SrF I1 I' → SrR I' s' → PkR I' p → okN50 most s' → ovS most s' = false → (∀ I'' s'', SrF I1 I'' → SrR I'' s'' → PkR I'' p → okN50 most s'' → s'' = (if okS (mkS W H C) cov c b then F b s' else s') → G (x + 1) I'') →
            if (lg_cmp ((atJ (J 48) 28 b) &&& bitL c) 0) = 0 then (EX (cal (d + (n + 1) + 2)) 42 K 77 [some (.ref 47), some (.int (Int32.ofNat p.length)), some (.long cov), none, none, none, some (.long (bitL c)), none, some (.int (Int32.ofNat c)), some (.int (Int32.ofNat x + 1)), none, none, none] [] (0, 0) (hp fz nn (lay Ln) I' J)) else (if (lg_cmp ((atJ (J 48) 28 b) &&& cov) 0) = 0 then (cal (d + (n + 1) + 2) 42 [.ref 47, .int (Int32.ofNat p.length + 1), .long (cov ||| (atJ (J 48) 28 b))] (hp fz nn (lay Ln) (pI2 I' 51 28 (Int32.ofNat p.length) b) J) (KC (d + (n + 1) + 2) 42 K 164 [some (.ref 47), some (.int (Int32.ofNat p.length)), some (.long cov), none, none, none, some (.long (bitL c)), none, some (.int (Int32.ofNat c)), some (.int (Int32.ofNat x)), some (.int b), some (.long (atJ (J 48) 28 b)), none] [] (0, 0) 42 (hp fz nn (lay Ln) (pI2 I' 51 28 (Int32.ofNat p.length) b) J))) else (EX (cal (d + (n + 1) + 2)) 42 K 77 [some (.ref 47), some (.int (Int32.ofNat p.length)), some (.long cov), none, none, none, some (.long (bitL c)), none, some (.int (Int32.ofNat c)), some (.int (Int32.ofNat x + 1)), none, none, none] [] (0, 0) (hp fz nn (lay Ln) I' J))) := by
          intro x b s' I' hx hf' hR' hP' ho' hov hnext
          have em : atJ (J 48) 28 b = mkS W H C b := by
            unfold mkS atJ
            by_cases q1 : b < 0
            · rw [if_pos q1, if_pos q1]
            · rw [if_neg q1, if_neg q1]
              by_cases q2 : Int32.ofNat 28 ≤ b
              · rw [if_pos q2, if_pos q2]
              · rw [if_neg q2, if_neg q2]
                refine hE.mk_ _ ?_
                have h1 := Int32.not_le.mp q2
                rw [Int32.lt_iff_toInt_lt, oN_toInt (by decide)] at h1
                show b.toInt.toNat < 28
                omega
          rw [em, oN_succ, oN_succ]
          have hsk : okS (mkS W H C) cov c b = false → G (x + 1) I' := fun q => hnext I' s' hf' hR' hP' ho' (by rw [q]; rfl)
          refine if_c (fun q => hsk ?_) (fun q => if_c (fun q2 => ?_) (fun q2 => hsk ?_))
          · have := (low_and (mkS W H C b) hc64 rfl).mp ((cmp0 _).mp q)
            unfold okS
            rw [this, Bool.false_and]
          · have hok : okS (mkS W H C) cov c b = true := by
              have h1 : bt (mkS W H C b) c = true := by
                cases h : bt (mkS W H C b) c with
                | true => rfl
                | false => exact absurd ((cmp0 _).mpr ((low_and (mkS W H C b) hc64 rfl).mpr h)) q
              unfold okS
              rw [h1, decide_eq_true ((cmp0 _).mp q2)]; rfl
            have hlen : (p ++ [b]).length = p.length + 1 := by simp
            have hfd : sFd s' < most := by
              have := ho'.2.1
              have h2 : ¬ sFd s' = most := fun e => by unfold ovS at hov; rw [decide_eq_true e, Bool.or_true] at hov; cases hov
              omega
            have fr : ∀ a, a ≠ 51 → pI2 I' 51 28 (Int32.ofNat p.length) b a = I' a := fun a ha => by
              by_cases hl28 : p.length < 28
              · rw [pI2_oN hl28 (by decide), w2_other _ _ _ ha]
              · rw [pI2_out I' 51 28 _ b (Or.inr (le_y (by omega) (by omega)))]
            have hfS : SrF I' (pI2 I' 51 28 (Int32.ofNat p.length) b) := fun a k hq => by rw [fr a (fun e => hq (Or.inl e))]
            have hPb : PkR (pI2 I' 51 28 (Int32.ofNat p.length) b) (p ++ [b]) := fun k hk hk2 => by
              rw [hlen] at hk
              by_cases e : k = p.length
              · subst e
                rw [pI2_oN hk2 (by decide), w2_at, if_pos ⟨rfl, rfl⟩, gD_app2]
              · have hk3 : k < p.length := by omega
                rw [gD_app1 _ _ hk3]
                by_cases hl28 : p.length < 28
                · rw [pI2_oN hl28 (by decide), w2_at, if_neg (fun h => e h.2)]; exact hP' k hk3 hk2
                · rw [pI2_out I' 51 28 _ b (Or.inr (le_y (by omega) (by omega)))]; exact hP' k hk3 hk2
            have := ih (p ++ [b]) (cov ||| mkS W H C b) s' (pI2 I' 51 28 (Int32.ofNat p.length) b) (KC (d + (n + 1) + 2) 42 K 164 [some (.ref 47), some (.int (Int32.ofNat p.length)), some (.long cov), none, none, none, some (.long (bitL c)), none, some (.int (Int32.ofNat c)), some (.int (Int32.ofNat x)), some (.int b), some (.long (mkS W H C b)), none] [] (0, 0) 42 (hp fz nn (lay Ln) (pI2 I' 51 28 (Int32.ofNat p.length) b) J)) (by rw [hlen]; omega) ((hE1.mono hf').mono hfS) (hR'.pk fr) hPb ho' hfd (fun I'' q1 q2 q3 => kc_0 rfl rfl (r_42_164 hn ?_))
            · rw [hlen] at this
              rw [show d + (n + 1) + 2 = d + 3 + n by omega] at *
              exact this
            · rw [oN_succ]
              refine hnext I'' (F b s') ((hf'.tr hfS).tr q1) q2 (fun k hk hk2 => ?_) (hF b s' hok ho' hfd) (by rw [hok]; rfl)
              have := q3 k (by rw [hlen]; omega) hk2
              rw [gD_app1 _ _ hk] at this
              exact this
          · unfold okS
            rw [decide_eq_false (fun e => q2 ((cmp0 _).mpr e)), Bool.and_false]
        have e49 : ∀ I', SrF I1 I' → atI (I' 49) 49 (Int32.ofNat c) = loS W H C c := fun I' hf' => by rw [atI_cell (by omega)]; exact (hE1.mono hf').lo c (by omega)
        have e50 : ∀ I', SrF I1 I' → atI (I' 50) 49 (Int32.ofNat c) = hiS W H C c := fun I' hf' => by rw [atI_cell (by omega)]; exact (hE1.mono hf').hi c (by omega)
        have done : ∀ s' I', SrF I1 I' → SrR I' s' → PkR I' p → s' = foldC most (okS (mkS W H C) cov c) F [loS W H C c, hiS W H C c] (nodeS s) → K (.inl none) (hp fz nn (lay Ln) I' J) := fun s' I' q1 q2 q3 q4 => hK I' q1 (q4 ▸ q2) q3
        have g2 : ∀ s' I', SrF I1 I' → SrR I' s' → PkR I' p → s' = foldC most (okS (mkS W H C) cov c) F [loS W H C c, hiS W H C c] (nodeS s) → G 2 I' := fun s' I' q1 q2 q3 q4 => r_42_77 hn (if_y (Int32.le_refl _) (done s' I' q1 q2 q3 q4))
        have g1 : ∀ s' I', SrF I1 I' → SrR I' s' → PkR I' p → okN50 most s' → foldC most (okS (mkS W H C) cov c) F [hiS W H C c] s' = foldC most (okS (mkS W H C) cov c) F [loS W H C c, hiS W H C c] (nodeS s) → G 1 I' := by
          intro s' I' q1 q2 q3 q4 q5
          refine r_42_77 hn (if_n (by decide) (if_c (fun hv => if_n (by decide) ?_) (fun hv => ?_)))
          · have hv := (isOver_eq (hE1.mono q1) q2 q4 hm).mp hv
            rw [e50 I' q1]
            refine step 1 (hiS W H C c) s' I' (by decide) q1 q2 q3 q4 hv (fun I'' s'' w1 w2' w3 w4 w5 => g2 s'' I'' w1 w2' w3 ?_)
            rw [← q5, w5, foldC_cons hv, foldC_nil]
          · have hv : ovS most s' = true := by
              cases h : ovS most s' with
              | true => rfl
              | false => exact absurd ((isOver_eq (hE1.mono q1) q2 q4 hm).mpr h) hv
            exact done s' I' q1 q2 q3 (by rw [← q5, foldC_ov hv])
        have g0 : G 0 I1 := by
          refine r_42_77 hn (if_n (by decide) (if_c (fun hv => if_y rfl ?_) (fun hv => ?_)))
          · have hv := (isOver_eq hE1 r1 hN hm).mp hv
            rw [e49 I1 (SrF.rf _)]
            refine step 0 (loS W H C c) (nodeS s) I1 (by decide) (SrF.rf _) r1 hP1 hN hv (fun I'' s'' w1 w2' w3 w4 w5 => g1 s'' I'' w1 w2' w3 w4 ?_)
            rw [w5, foldC_cons hv]
          · have hv : ovS most (nodeS s) = true := by
              cases h : ovS most (nodeS s) with
              | true => rfl
              | false => exact absurd ((isOver_eq hE1 r1 hN hm).mpr h) hv
            exact done (nodeS s) I1 (SrF.rf _) r1 hP1 (by rw [foldC_ov hv])
        exact g0
end SRC
