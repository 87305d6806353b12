/-! ===== a band from its other gate; its cells one beside the other ===== -/
theorem cntB_rev : ∀ (n : Nat) (p : Nat → Bool), cntB (fun j => p (n - 1 - j)) n = cntB p n := by
  intro n
  induction n with
  | zero => intro p; rfl
  | succ n ih =>
    intro p
    have h1 := ih (fun i => p (i + 1))
    have h2 : cntB (fun j => p (n + 1 - 1 - j)) n = cntB (fun j => (fun i => p (i + 1)) (n - 1 - j)) n := by
      apply cntB_congr
      intro i hi
      show p (n + 1 - 1 - i) = p (n - 1 - i + 1)
      rw [show n + 1 - 1 - i = n - 1 - i + 1 by omega]
    have h3 : cntB p (1 + n) = cntB p 1 + cntB (fun i => p (1 + i)) n := cntB_add p 1 n
    have h4 : cntB (fun i => p (1 + i)) n = cntB (fun i => p (i + 1)) n := cntB_congr (fun i _ => by rw [Nat.add_comm])
    rw [Nat.add_comm 1 n, h4] at h3
    rw [h3, ← h1, ← h2]
    have h5 : cntB (fun j => p (n + 1 - 1 - j)) (n + 1) = cntB (fun j => p (n + 1 - 1 - j)) n + (if p (n + 1 - 1 - n) then 1 else 0) := rfl
    have h6 : cntB p 1 = 0 + (if p 0 then 1 else 0) := rfl
    rw [h5, h6, show n + 1 - 1 - n = 0 by omega]
    omega
section REV
variable {W H : Nat} {C : Cel} {g : Nat}
theorem pS_zero : pS W H C g 0 = ent W H g := rfl
theorem bN_pos : 1 ≤ bN W H C g := by unfold bN; omega
/-- the way from the gate at which a band ends -/
theorem rev_it (hW : 0 < W) (hH : 0 < H) (hb : 2 * (W + H) ≤ 28) (hg : g < 2 * (W + H)) {q : Nat} (he : bE W H C g = Int32.ofNat q) (hq : q < 2 ^ 31) : q < 2 * (W + H) ∧ C (pC W H C g (bN W H C g - 1)) ≠ 35 ∧ nxt W H C (pS W H C g (bN W H C g - 1)) = .inr q ∧ ∀ j, j < bN W H C g → itp W H C q j = some (rev W C (pS W H C g (bN W H C g - 1 - j))) := by
  rcases bE_cases (C := C) hW hH hg with ⟨h1, h2⟩ | ⟨q', h1, h2, h3, h4⟩
  · rw [he] at h1; exact absurd h1 (g_ne hq)
  · rw [h1] at he
    have hqq := (oN_eq (by omega) hq).mp he
    subst hqq
    obtain ⟨i, s, k1, k2, k3⟩ := h2
    obtain ⟨e1, e2⟩ := b_eq hW hH hg (show Bd W H C g i (Int32.ofNat q') from ⟨s, k1, Or.inr ⟨k2, q', k3, rfl⟩⟩)
    have hi : bN W H C g - 1 = i := by omega
    have hs : pS W H C g i = s := pS_of k1
    refine ⟨h3, ?_, ?_, fun j => ?_⟩
    · rw [hi]; unfold pC; rw [hs]; exact k2
    · rw [hi, hs]; exact k3
    · induction j with
      | zero =>
        intro _
        show some (ent W H q') = _
        rw [(nxt_out (it_in hW hH hg k1) k3).1, Nat.sub_zero, hi, hs]
      | succ j ih =>
        intro hj
        have ih := ih (by omega)
        refine it_succ.mpr ⟨_, ih, ?_, ?_⟩
        · show C ((pS W H C g (bN W H C g - 1 - j)).1 * W + (pS W H C g (bN W H C g - 1 - j)).2.1) ≠ 35
          by_cases e : j = 0
          · subst e
            rw [Nat.sub_zero, hi, hs]; exact k2
          · exact (pS_succ (C := C) hW hH hg (i := bN W H C g - 1 - j) (by omega)).2
        · have h5 := (pS_succ (C := C) hW hH hg (i := bN W H C g - 1 - (j + 1)) (by omega)).1
          rw [show bN W H C g - 1 - (j + 1) + 1 = bN W H C g - 1 - j by omega] at h5
          exact nxt_rev (pS_in hW hH hg (by omega)) h5
/-- its end, its length, its cells, its corners, its runes, its crossing -/
theorem rev_all (hW : 0 < W) (hH : 0 < H) (hb : 2 * (W + H) ≤ 28) (hg : g < 2 * (W + H)) {q : Nat} (he : bE W H C g = Int32.ofNat q) (hq : q < 2 ^ 31) : q < 2 * (W + H) ∧ bE W H C q = Int32.ofNat g ∧ bN W H C q = bN W H C g ∧ ∀ j, j < bN W H C g → pC W H C q j = pC W H C g (bN W H C g - 1 - j) := by
  obtain ⟨h1, h2, h3, h4⟩ := rev_it hW hH hb hg he hq
  have hp := bN_pos (W := W) (H := H) (C := C) (g := g)
  have h5 := h4 (bN W H C g - 1) (by omega)
  rw [Nat.sub_self, pS_zero] at h5
  have hin := (ent_in hW hH hg)
  have hne : byt W C (rev W C (ent W H g)) ≠ 35 := by
    show C ((pS W H C g 0).1 * W + (pS W H C g 0).2.1) ≠ 35
    by_cases e : bN W H C g = 1
    · rw [e] at h2; exact h2
    · exact (pS_succ (C := C) hW hH hg (i := 0) (by omega)).2
  have hx : nxt W H C (rev W C (ent W H g)) = .inr g := nxt_of_ent hW hH hg (rev_in hin.1) (rev_rev hin.1)
  obtain ⟨e1, e2⟩ := b_eq hW hH h1 (show Bd W H C q (bN W H C g - 1) (Int32.ofNat g) from ⟨_, h5, Or.inr ⟨hne, g, hx, rfl⟩⟩)
  refine ⟨h1, e2, by omega, fun j hj => ?_⟩
  unfold pC
  rw [pS_of (h4 j hj)]
  rfl
theorem cntB_pos2 {p : Nat → Bool} {n i j : Nat} (hi : i < n) (hj : j < n) (h : i < j) (h1 : p i = true) (h2 : p j = true) : 2 ≤ cntB p n := by
  induction n with
  | zero => omega
  | succ n ih =>
    show 2 ≤ cntB p n + (if p n then 1 else 0)
    by_cases e : j = n
    · subst e
      have := cntB_pos (p := p) (n := j) |>.mpr ⟨i, h, h1⟩
      rw [if_pos h2]; omega
    · have := ih (by omega) (by omega)
      omega
/-- crossing, by two places -/
theorem crB_iff {f : Nat → Nat} {n : Nat} : crB f n = true ↔ ∃ i j, i < j ∧ j < n ∧ f i = f j := by
  induction n with
  | zero => exact ⟨fun h => Bool.noConfusion h, fun ⟨_, j, _, h, _⟩ => absurd h (Nat.not_lt_zero j)⟩
  | succ n ih =>
    unfold crB
    rw [Bool.or_eq_true, ih, decide_eq_true_iff, cntB_pos]
    constructor
    · rintro (⟨i, j, h1, h2, h3⟩ | ⟨i, h1, h2⟩)
      · exact ⟨i, j, h1, by omega, h3⟩
      · exact ⟨i, n, h1, by omega, of_decide_eq_true h2⟩
    · rintro ⟨i, j, h1, h2, h3⟩
      by_cases e : j = n
      · subst e; exact Or.inr ⟨i, h1, decide_eq_true h3⟩
      · exact Or.inl ⟨i, j, h1, by omega, h3⟩
theorem crB_rev {f f' : Nat → Nat} {n : Nat} (h : ∀ j, j < n → f' j = f (n - 1 - j)) : crB f' n = crB f n := by
  have key : crB f' n = true ↔ crB f n = true := by
    rw [crB_iff, crB_iff]
    constructor
    · rintro ⟨i, j, h1, h2, h3⟩
      rw [h i (by omega), h j h2] at h3
      exact ⟨n - 1 - j, n - 1 - i, by omega, by omega, h3.symm⟩
    · rintro ⟨i, j, h1, h2, h3⟩
      refine ⟨n - 1 - j, n - 1 - i, by omega, by omega, ?_⟩
      rw [h _ (by omega), h _ (by omega), show n - 1 - (n - 1 - j) = j by omega, show n - 1 - (n - 1 - i) = i by omega]
      exact h3.symm
  cases e : crB f n with
  | true => exact key.mpr e
  | false =>
    cases e2 : crB f' n with
    | false => rfl
    | true => rw [key.mp e2] at e; cases e
theorem rev_cnt (hW : 0 < W) (hH : 0 < H) (hb : 2 * (W + H) ≤ 28) (hg : g < 2 * (W + H)) {q : Nat} (he : bE W H C g = Int32.ofNat q) (hq : q < 2 ^ 31) (p : Nat → Bool) : cntB (fun j => p (pC W H C q j)) (bN W H C q) = cntB (fun j => p (pC W H C g j)) (bN W H C g) := by
  obtain ⟨h1, h2, h3, h4⟩ := rev_all hW hH hb hg he hq
  rw [h3, ← cntB_rev (bN W H C g) (fun j => p (pC W H C g j))]
  exact cntB_congr fun j hj => by rw [h4 j hj]
theorem rev_crB (hW : 0 < W) (hH : 0 < H) (hb : 2 * (W + H) ≤ 28) (hg : g < 2 * (W + H)) {q : Nat} (he : bE W H C g = Int32.ofNat q) (hq : q < 2 ^ 31) : crB (pC W H C q) (bN W H C q) = crB (pC W H C g) (bN W H C g) := by
  obtain ⟨h1, h2, h3, h4⟩ := rev_all hW hH hb hg he hq
  rw [h3]
  exact crB_rev h4
/-- the broken corner stands at the end alone -/
theorem brk (hW : 0 < W) (hH : 0 < H) (hb : 2 * (W + H) ≤ 28) (hg : g < 2 * (W + H)) {i : Nat} (hi : i < bN W H C g) : C (pC W H C g i) = 35 ↔ (i = bN W H C g - 1 ∧ bE W H C g = -1) := by
  have hp := bN_pos (W := W) (H := H) (C := C) (g := g)
  constructor
  · intro h
    have h1 : i = bN W H C g - 1 := Classical.byContradiction fun e => (pS_succ (C := C) hW hH hg (i := i) (by omega)).2 h
    refine ⟨h1, ?_⟩
    rcases bE_cases (C := C) hW hH hg with ⟨h2, -⟩ | ⟨q, h2, -, h4, -⟩
    · exact h2
    · have := (rev_it hW hH hb hg h2 (by omega)).2.1
      rw [← h1] at this
      exact absurd h this
  · rintro ⟨h1, h2⟩
    rcases bE_cases (C := C) hW hH hg with ⟨-, h3⟩ | ⟨q, h3, -, h4, -⟩
    · rw [h1, show bN W H C g - 1 = bL W H C g by unfold bN; omega]; exact h3
    · rw [h3] at h2; exact absurd h2 (g_ne (by omega))
/-- a step goes to a cell beside -/
theorem mv_near {W H r c d : Nat} {t : Pos} (hr : r < H) (hc : c < W) (hd : d < 4) (h : mv W H r c d = .inl t) : t.1 * W + t.2.1 + 1 = r * W + c ∨ t.1 * W + t.2.1 = r * W + c + 1 ∨ t.1 * W + t.2.1 + W = r * W + c ∨ t.1 * W + t.2.1 = r * W + c + W := by
  unfold mv at h
  rcases lt4 hd with rfl | rfl | rfl | rfl
  · simp only [if_true] at h
    split at h
    · cases h
    · cases h
      refine Or.inr (Or.inr (Or.inl ?_))
      show (r - 1) * W + c + W = r * W + c
      have : r * W = (r - 1) * W + W := by
        rw [← Nat.succ_mul, show (r - 1).succ = r by omega]
      omega
  · simp only [if_neg (show ¬ (1 : Nat) = 0 by omega), if_true] at h
    split at h
    · cases h
    · cases h
      exact Or.inr (Or.inl rfl)
  · simp only [if_neg (show ¬ (2 : Nat) = 0 by omega), if_neg (show ¬ (2 : Nat) = 1 by omega), if_true] at h
    split at h
    · cases h
    · cases h
      refine Or.inr (Or.inr (Or.inr ?_))
      show (r + 1) * W + c = r * W + c + W
      rw [Nat.add_mul]; omega
  · simp only [if_neg (show ¬ (3 : Nat) = 0 by omega), if_neg (show ¬ (3 : Nat) = 1 by omega), if_neg (show ¬ (3 : Nat) = 2 by omega)] at h
    split at h
    · cases h
    · cases h
      refine Or.inl ?_
      show r * W + (c - 1) + 1 = r * W + c
      omega
theorem pC_near (hW : 0 < W) (hH : 0 < H) (hg : g < 2 * (W + H)) {i : Nat} (hi : i + 1 < bN W H C g) : pC W H C g (i + 1) + 1 = pC W H C g i ∨ pC W H C g (i + 1) = pC W H C g i + 1 ∨ pC W H C g (i + 1) + W = pC W H C g i ∨ pC W H C g (i + 1) = pC W H C g i + W := by
  have hs := pS_in (C := C) hW hH hg (i := i) (by omega)
  exact mv_near hs.1 hs.2.1 (trn_lt _ hs.2.2) (pS_succ (C := C) hW hH hg hi).1
end REV
