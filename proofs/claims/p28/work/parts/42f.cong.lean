/-! ===== only the cells of the stone count ===== -/
section CNG
variable {W H : Nat} {C C' : Cel} {g : Nat}
def CEq (W H : Nat) (C C' : Cel) : Prop := ∀ c, c < W * H → C c = C' c
theorem CEq.symm (h : CEq W H C C') : CEq W H C' C := fun c hc => (h c hc).symm
theorem itp_cg (hW : 0 < W) (hH : 0 < H) (h : CEq W H C C') (hg : g < 2 * (W + H)) : ∀ i, itp W H C g i = itp W H C' g i := by
  intro i
  induction i with
  | zero => rfl
  | succ i ih =>
    show (match itp W H C g i with
      | some s => if byt W C s = 35 then none else match nxt W H C s with
        | .inl t => some t
        | .inr _ => none
      | none => none) = match itp W H C' g i with
      | some s => if byt W C' s = 35 then none else match nxt W H C' s with
        | .inl t => some t
        | .inr _ => none
      | none => none
    rw [← ih]
    cases e : itp W H C g i with
    | none => rfl
    | some s =>
      have hs := it_in hW hH hg e
      have hb : byt W C s = byt W C' s := h _ (cell_lt hs)
      unfold nxt
      dsimp only
      rw [hb]
theorem Bd_cg (hW : 0 < W) (hH : 0 < H) (h : CEq W H C C') (hg : g < 2 * (W + H)) {l : Nat} {e : Int32} (hb : Bd W H C g l e) : Bd W H C' g l e := by
  obtain ⟨s, h1, h2⟩ := hb
  have hs := it_in hW hH hg h1
  have hb : byt W C s = byt W C' s := h _ (cell_lt hs)
  refine ⟨s, by rw [← itp_cg hW hH h hg]; exact h1, ?_⟩
  unfold nxt at h2 ⊢
  rw [hb] at h2
  exact h2
theorem bn_cg (hW : 0 < W) (hH : 0 < H) (h : CEq W H C C') (hg : g < 2 * (W + H)) : bN W H C' g = bN W H C g ∧ bE W H C' g = bE W H C g :=
  b_eq hW hH hg (Bd_cg hW hH h hg (b_spec (C := C) hW hH hg))
theorem pC_cg (hW : 0 < W) (hH : 0 < H) (h : CEq W H C C') (hg : g < 2 * (W + H)) : pC W H C' g = pC W H C g := by
  funext i
  unfold pC pS
  rw [itp_cg hW hH h hg]
theorem fstB_cg (hW : 0 < W) (hH : 0 < H) (h : CEq W H C C') (hg : g < 2 * (W + H)) : fstB W H C' g = fstB W H C g := by
  unfold fstB
  rw [(bn_cg hW hH h hg).2]
theorem rdg_cg (hW : 0 < W) (hH : 0 < H) (h : CEq W H C C') (hg : g < 2 * (W + H)) : rdg W H C' g = rdg W H C g := by
  unfold rdg
  rw [(bn_cg hW hH h hg).1]
  congr 1
  apply rdW_congr
  intro i st hi
  show takeC st (C' (pC W H C' g i)) = takeC st (C (pC W H C g i))
  rw [pC_cg hW hH h hg, h _ (pC_lt hW hH hg hi)]
theorem cnt_cg (h : CEq W H C C') (p : Int32 → Bool) : cntB (fun c => p (C' c)) (W * H) = cntB (fun c => p (C c)) (W * H) := cntB_congr fun c hc => by rw [h c hc]
theorem nF_cg (hW : 0 < W) (hH : 0 < H) (h : CEq W H C C') (w : Wds) (k : Nat) : nF W H C' w k = nF W H C w k := by
  have e2 := cnt_cg h isRB
  have e3 := cnt_cg h isSB
  have e4 := cnt_cg h isCB
  have e5 : cntB (fun c => decide (C' c = 35)) (W * H) = cntB (fun c => decide (C c = 35)) (W * H) := cnt_cg h fun v => decide (v = 35)
  have e7 : nFst W H C' (2 * (W + H)) = nFst W H C (2 * (W + H)) := by
    unfold nFst
    exact cntB_congr fun g hg => fstB_cg hW hH h hg
  have e8 : nCrs W H C' (2 * (W + H)) = nCrs W H C (2 * (W + H)) := by
    unfold nCrs
    refine cntB_congr fun g hg => ?_
    rw [fstB_cg hW hH h hg, pC_cg hW hH h hg, (bn_cg hW hH h hg).1]
  unfold nF
  rw [e2, e3, e4, e5, e7, e8]
end CNG
/-! ===== what print adds up ===== -/
noncomputable def prN (W H : Nat) (C : Cel) (w : Wds) (k : Nat) (h : Int64) : Int64 := mx1 h (nF W H C w k)
def prC (W H : Nat) (C : Cel) (k : Nat) (h : Int64) : Int64 := mx1 h (if k < W * H then C k else -5000003)
noncomputable def prG (W H : Nat) (C : Cel) (w : Wds) (g : Nat) (h : Int64) : Int64 := mx1 (mx1 h (if g < 2 * (W + H) then bE W H C g else -5000003)) (if g < 2 * (W + H) then score w (rdg W H C g) else -5000003)
def prD (w : Wds) (k : Nat) (h : Int64) : Int64 := mx1 h (if k / 8 < w.1 then wRx w (Int32.ofNat (k / 8)) (Int32.ofNat (k % 8)) else -5000003)
noncomputable def prV (W H : Nat) (C : Cel) (w : Wds) : Int64 := itN (prD w) 64 (itN (prG W H C w) 28 (itN (prC W H C) 49 (itN (prN W H C w) 10 191)))
theorem itN_congr {f f' : Nat → Int64 → Int64} (h : ∀ k x, f k x = f' k x) : ∀ n x, itN f n x = itN f' n x := by
  intro n x
  induction n with
  | zero => rfl
  | succ n ih => show f n _ = f' n _; rw [ih, h]
theorem prV_cg {W H : Nat} {C C' : Cel} (hW : 0 < W) (hH : 0 < H) (h : CEq W H C C') (w : Wds) : prV W H C' w = prV W H C w := by
  unfold prV
  rw [itN_congr (f := prN W H C' w) (f' := prN W H C w) (fun k x => by unfold prN; rw [nF_cg hW hH h]), itN_congr (f := prC W H C') (f' := prC W H C) (fun k x => ?_), itN_congr (f := prG W H C' w) (f' := prG W H C w) (fun k x => ?_)]
  · unfold prG
    by_cases e : k < 2 * (W + H)
    · rw [if_pos e, if_pos e, if_pos e, if_pos e, (bn_cg hW hH h e).2, rdg_cg hW hH h e]
    · rw [if_neg e, if_neg e, if_neg e, if_neg e]
  · unfold prC
    by_cases e : k < W * H
    · rw [if_pos e, if_pos e, h k e]
    · rw [if_neg e, if_neg e]
/-! ===== told lies between 0 and 1 ===== -/
theorem div_01 : ∀ a, a < 50 → ∀ b, b < 50 → b ≠ 0 → a ≤ b → Op.cmpValue (FP.dcmp (FP.ddiv (FP.i2d (Int32.ofNat a)) (FP.i2d (Int32.ofNat b))) FP.dconst0) .l ≥ 0 ∧ Op.cmpValue (FP.dcmp (FP.ddiv (FP.i2d (Int32.ofNat a)) (FP.i2d (Int32.ofNat b))) FP.dconst1) .g ≤ 0 := by
  decide +kernel
theorem div_eq : ∀ a, a < 50 → ∀ b, b < 50 → b ≠ 0 → a ≤ b → Op.cmpValue (FP.dcmp (FP.ddiv (FP.i2d (Int32.ofNat a)) (FP.i2d (Int32.ofNat b))) (FP.ddiv (FP.i2d (Int32.ofNat a)) (FP.i2d (Int32.ofNat b)))) .l = 0 := by
  decide +kernel
